/** Promises 9, 11 and 12: common, child, remove. */
public final class ChildTest {
  public static void main(String[] args) {
    childrenByLabelSets();
    labelSetsThatAreNone();
    labelsThatKindsHaveThemselves();
    statesetWithoutStates();
    numbersThatAreFree();
    twentyFour();
    removing();
    numbersUsedAgain();
    commonLabel();
    commonLabelThatMayNotBe();
    wrongCommonLabels();
    Check.end();
  }

  private static void childrenByLabelSets() {
    MeterSheet x = new MeterSheet();
    int a = Check.family(x, Check.GAUGE, "a");
    int b = Check.family(x, Check.GAUGE, "b");
    Check.due("without labels", 0, Check.child(x, a));
    Check.due("the tape is used up", 0, Check.tapeSize(x));
    Check.due("three labels", 1, Check.child(x, a, "b", "1", "a", "2", "ab", "3"));
    Check.due("in another order", 1, Check.child(x, a, "ab", "3", "b", "1", "a", "2"));
    Check.due("values in another order", 2, Check.child(x, a, "ab", "2", "b", "1", "a", "3"));
    Check.due("of another family", 3, Check.child(x, b, "b", "1", "a", "2", "ab", "3"));
    Check.due("an empty value", 4, Check.child(x, a, "a", ""));
    Check.due("long ones", 5, Check.child(x, a, "_2345678", "\n ~\"\\6789012", "Z", "", "A9_", "x"));
    Check.due("bytes of long ones", 8 + 12 + 2 + 3 + 3 + 3, x.childOf(0, 5, 1));
    Check.due("the longest", 6, Check.child(x, b, "abcdefgh", "123456789012", "abcdefgi", "123456789012", "abcdefgj",
        "123456789012"));
    Check.due("bytes of the longest", 66, x.childOf(0, 6, 1));
    Check.due("the longest again", 6, Check.child(x, b, "abcdefgj", "123456789012", "abcdefgi", "123456789012",
        "abcdefgh", "123456789012"));
    x.remove(6);
    Check.due("without labels again", 0, Check.child(x, a));
    Check.due("by rising names", "# TYPE a gauge\na 0\na{a=\"2\",ab=\"3\",b=\"1\"} 0\na{a=\"3\",ab=\"2\",b=\"1\"} 0\n"
        + "a{a=\"\"} 0\na{A9_=\"x\",Z=\"\",_2345678=\"\\n ~\\\"\\\\6789012\"} 0\n"
        + "# TYPE b gauge\nb{a=\"2\",ab=\"3\",b=\"1\"} 0\n# EOF\n", Check.written(x, 0, 0));
  }

  private static void labelSetsThatAreNone() {
    MeterSheet x = new MeterSheet();
    int a = Check.family(x, Check.GAUGE, "a");
    String[] wrong = {"a", "a\1", "a\1b", "\1\2", "\2", "1a\1\2", "a:\1\2", "__a\1\2", "__\1\2", "abcdefghi\1\2",
        "a\0011234567890123\2", "a\1\t\2", "a\1\177\2", "a\1\1\2", "a\1\2a\1x\2", "a\1\2b\1\2c\1\2d\1\2", "a\1\2b",
        "a\1\2\2", "a\1\200\2", "a\1\2 ", "a\2\1"};
    for (String tape : wrong) {
      Check.dueThrow("tape <" + tape + ">", Check.ARGUMENT, () -> {
        Check.tape(x, tape);
        x.child(a);
      });
      Check.due("used up", 0, Check.tapeSize(x));
    }
    Check.due("no child was made", 0, x.look(0, 1));
    Check.due("one _ is a name", 0, Check.child(x, a, "_", "", "_a_", ""));
    Check.dueThrow("no family", Check.ARGUMENT, () -> Check.child(x, 1));
    Check.dueThrow("no family -1", Check.ARGUMENT, () -> Check.child(x, -1, "a", "b"));
    Check.due("used up without a family", 0, Check.tapeSize(x));
  }

  private static void labelsThatKindsHaveThemselves() {
    MeterSheet x = new MeterSheet();
    int h = Check.family(x, Check.HISTOGRAM, "h");
    int s = Check.family(x, Check.STATESET, "s");
    int g = Check.family(x, Check.GAUGE, "g");
    Check.state(x, s, "on");
    Check.dueThrow("le in a histogram", Check.ARGUMENT, () -> Check.child(x, h, "a", "1", "le", "1"));
    Check.dueThrow("s in s", Check.ARGUMENT, () -> Check.child(x, s, "s", "1", "t", "2"));
    Check.due("h in h", 0, Check.child(x, h, "h", "1"));
    Check.due("le in s", 1, Check.child(x, s, "le", "1"));
    Check.due("le in g", 2, Check.child(x, g, "le", "1"));
    Check.due("g in g", 3, Check.child(x, g, "g", "1"));
  }

  private static void statesetWithoutStates() {
    MeterSheet x = new MeterSheet();
    int s = Check.family(x, Check.STATESET, "s");
    x.cap(s, 0);
    Check.dueThrow("without states", Check.UNSUPPORTED, () -> Check.child(x, s));
    Check.dueThrow("a wrong set comes first", Check.ARGUMENT, () -> Check.child(x, s, "9", ""));
    Check.state(x, s, "on");
    Check.dueThrow("with a state, but none may be", Check.STATE, () -> Check.child(x, s));
    x.cap(s, 1);
    Check.due("with a state", 0, Check.child(x, s));
  }

  private static void numbersThatAreFree() {
    MeterSheet x = new MeterSheet();
    int g = Check.family(x, Check.GAUGE, "g");
    for (int k = 0; k < 4; k++) {
      Check.child(x, g, "k", "" + k);
    }
    x.set(1, 5000);
    x.remove(1);
    x.remove(2);
    Check.due("the least", 1, Check.child(x, g, "k", "9"));
    Check.due("is new", 0, x.childOf(0, 1, 2));
    Check.due("the next", 2, Check.child(x, g, "k", "1"));
    Check.due("the last", 4, Check.child(x, g, "k", "2"));
    Check.due("in the order in which they were made",
        "# TYPE g gauge\ng{k=\"0\"} 0\ng{k=\"3\"} 0\ng{k=\"9\"} 0\ng{k=\"1\"} 0\ng{k=\"2\"} 0\n", Check.written(x, 0, 1));
  }

  private static void twentyFour() {
    MeterSheet x = new MeterSheet();
    int a = Check.family(x, Check.GAUGE, "a");
    int b = Check.family(x, Check.INFO, "b");
    for (int k = 0; k < 24; k++) {
      Check.due("child " + k, k, Check.child(x, k % 2 == 0 ? a : b, "k", "" + k));
    }
    Check.dueThrow("one more", Check.STATE, () -> Check.child(x, a, "k", "24"));
    Check.due("one that is there", 23, Check.child(x, b, "k", "23"));
    x.remove(7);
    Check.due("room again", 7, Check.child(x, a, "k", "24"));
    Check.due("24 of them", 24, x.look(0, 1));
  }

  private static void removing() {
    MeterSheet x = new MeterSheet();
    int c = Check.family(x, Check.COUNTER, "c");
    Check.child(x, c);
    Check.add(x, 0, 1000, "t", "1");
    Check.dueThrow("none -1", Check.NO_ELEMENT, () -> x.remove(-1));
    Check.dueThrow("none 1", Check.NO_ELEMENT, () -> x.remove(1));
    Check.dueThrow("none 24", Check.NO_ELEMENT, () -> x.remove(24));
    x.remove(0);
    Check.dueThrow("gone", Check.NO_ELEMENT, () -> x.remove(0));
    Check.dueThrow("not to be seen", Check.NO_ELEMENT, () -> x.childOf(0, 0, 0));
    Check.due("no exemplar", 0, x.look(0, 2));
    Check.due("no child", 0, x.look(0, 1));
    Check.due("none of the family", 0, x.familyOf(0, c, 1));
    x.tick(5);
    Check.child(x, c);
    Check.due("a new one has no total", 0, x.childOf(0, 0, 2));
    Check.due("a new one has its own time", 5, x.childOf(0, 0, 4));
    Check.due("a new one has no exemplar", 0, x.bucket(0, 0, 0, 2));
  }

  /** A child with the number of one that is gone has nothing of it. */
  private static void numbersUsedAgain() {
    MeterSheet x = new MeterSheet();
    int h = Check.family(x, Check.HISTOGRAM, "h");
    int s = Check.family(x, Check.STATESET, "s");
    Check.state(x, s, "on");
    for (int b = 1; b <= 6; b++) {
      x.bound(h, b);
    }
    Check.child(x, h, "a", "");
    x.tick(9);
    for (int v = 1; v <= 7; v++) {
      Check.observe(x, 0, v, "t", "1");
    }
    x.remove(0);
    Check.child(x, h);
    Check.due("no observations", 0, x.childOf(0, 0, 3));
    Check.due("no sum", 0, x.childOf(0, 0, 2));
    for (int b = 0; b < 7; b++) {
      for (int what = 1; what < 6; what++) {
        Check.due("bucket " + b + " " + what, 0, x.bucket(0, 0, b, what));
      }
    }
    Check.child(x, s);
    x.turn(1, 0, true);
    x.remove(1);
    Check.child(x, s);
    Check.due("no state is on", 0, x.childOf(0, 1, 5));
  }

  private static void commonLabel() {
    MeterSheet x = new MeterSheet();
    int g = Check.family(x, Check.GAUGE, "g");
    Check.due("before", 0, Check.child(x, g, "z", "1"));
    Check.common(x, "m", "all");
    Check.due("the tape is used up", 0, Check.tapeSize(x));
    Check.due("a new one, with it", 1, Check.child(x, g, "z", "1"));
    Check.due("the same", 1, Check.child(x, g, "z", "1"));
    Check.due("its own stays", 2, Check.child(x, g, "m", "own", "z", "1"));
    Check.due("told by itself", 1, Check.child(x, g, "m", "all", "z", "1"));
    Check.dueThrow("three and the common one", Check.ARGUMENT, () -> Check.child(x, g, "a", "", "b", "", "c", ""));
    Check.due("three with it", 3, Check.child(x, g, "a", "", "b", "", "m", ""));
    Check.due("two and the common one", 4, Check.child(x, g, "a", "", "b", ""));
    Check.common(x, "n", "");
    Check.due("another common one", 5, Check.child(x, g, "z", "1"));
    Check.common(x);
    Check.due("no common one", 0, Check.child(x, g, "z", "1"));
    Check.due("by rising names", "# TYPE g gauge\ng{z=\"1\"} 0\ng{m=\"all\",z=\"1\"} 0\ng{m=\"own\",z=\"1\"} 0\n"
        + "g{a=\"\",b=\"\",m=\"\"} 0\ng{a=\"\",b=\"\",m=\"all\"} 0\ng{n=\"\",z=\"1\"} 0\n", Check.written(x, 0, 1));
  }

  private static void commonLabelThatMayNotBe() {
    MeterSheet x = new MeterSheet();
    int h = Check.family(x, Check.HISTOGRAM, "h");
    int s = Check.family(x, Check.STATESET, "s");
    int g = Check.family(x, Check.GAUGE, "g");
    Check.state(x, s, "on");
    Check.common(x, "le", "1");
    Check.child(x, h, "a", "", "b", "", "c", "");
    Check.due("a histogram gets no le", 9, x.childOf(0, 0, 1));
    Check.child(x, s);
    Check.due("a stateset gets it", 5, x.childOf(0, 1, 1));
    Check.common(x, "s", "");
    Check.child(x, s);
    Check.due("s gets no s", 0, x.childOf(0, 2, 1));
    Check.child(x, g);
    Check.due("g gets it", 3, x.childOf(0, 3, 1));
  }

  private static void wrongCommonLabels() {
    MeterSheet x = new MeterSheet();
    int g = Check.family(x, Check.GAUGE, "g");
    Check.common(x, "m", "1");
    String[] wrong = {"a\1\2b\1\2", "a", "__a\1\2", "a\1\3\2", "a\0011234567890123\2", "\1\2"};
    for (String tape : wrong) {
      Check.dueThrow("tape <" + tape + ">", Check.ARGUMENT, () -> {
        Check.tape(x, tape);
        x.common();
      });
      Check.due("used up", 0, Check.tapeSize(x));
    }
    Check.child(x, g);
    Check.due("the earlier one stays", 4, x.childOf(0, 0, 1));
  }
}
