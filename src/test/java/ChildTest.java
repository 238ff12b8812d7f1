/** Promises 9, 11 and 12: common, child, remove. */
public final class ChildTest {
  public static void main(String[] args) {
    childrenByLabelSets();
    labelsByRisingNames();
    labelNameLengths();
    labelNameBytes();
    labelNamesWithTwo();
    labelValueLengths();
    labelValueBytes();
    labelSetsThatAreNone();
    namesAllDifferent();
    atMostThreeLabels();
    labelsThatKindsHaveThemselves();
    childrenOfNoFamily();
    statesetWithoutStates();
    childThatIsThere();
    familyWithAsManyAsItMay();
    twentyFour();
    childListedFirst();
    newChildren();
    leastNumberThatIsFree();
    removing();
    removingNone();
    numbersUsedAgain();
    commonLabel();
    commonLabelOfThatName();
    commonLabelThatMayNotBe();
    commonLabelBesideThree();
    noCommonLabel();
    commonLabelsThatAreNone();
    Check.end();
  }

  private static MeterSheet gauges() {
    MeterSheet x = new MeterSheet();
    Check.family(x, Check.GAUGE, "g");
    return x;
  }

  /** What a label set on the tape does at child, at common, and as an exemplar's: all three must say the same. */
  private static void dueSet(String what, boolean good, String tape) {
    MeterSheet x = gauges();
    Check.tape(x, tape);
    String want = good ? "0 " + tape.length() : "refused 0 used up";
    String got;
    try {
      got = x.child(0) + " " + x.childOf(0, 0, 1);
    } catch (IllegalArgumentException e) {
      got = "refused " + x.look(0, 1) + (Check.tapeSize(x) == 0 ? " used up" : "");
    }
    Check.due(what, want, got);
    Check.tape(x, tape);
    try {
      x.common();
      got = x.child(0) + " " + x.childOf(0, 0, 1);
    } catch (IllegalArgumentException e) {
      got = "refused " + x.look(0, 1) + (Check.tapeSize(x) == 0 ? " used up" : "");
    }
    Check.due(what + ", common", want, got);
    MeterSheet y = new MeterSheet();
    Check.family(y, Check.COUNTER, "c");
    Check.child(y, 0);
    Check.tape(y, tape);
    try {
      y.add(0, 5, true);
      got = "0 " + y.bucket(0, 0, 0, 5);
    } catch (IllegalArgumentException e) {
      got = "refused " + y.look(0, 2) + (Check.tapeSize(y) == 0 ? " used up" : "");
    }
    Check.due(what + ", of an exemplar", want, got);
  }

  private static void childrenByLabelSets() {
    Check.sentence("The child of a family with the label set that the tape is, which is used up, and with the common label: "
        + "its number");
    MeterSheet x = gauges();
    Check.family(x, Check.GAUGE, "b");
    Check.due("without labels", 0, Check.child(x, 0));
    Check.due("the tape is used up", 0, Check.tapeSize(x));
    Check.due("three labels", 1, Check.child(x, 0, "b", "1", "a", "2", "ab", "3"));
    Check.due("the tape is used up again", 0, Check.tapeSize(x));
    Check.due("values in another order", 2, Check.child(x, 0, "ab", "2", "b", "1", "a", "3"));
    Check.due("of another family", 3, Check.child(x, 1, "b", "1", "a", "2", "ab", "3"));
    Check.due("an empty value", 4, Check.child(x, 0, "a", ""));
    Check.due("one label less", 5, Check.child(x, 0, "a", "2", "ab", "3"));
    Check.due("another value", 6, Check.child(x, 0, "a", "2", "ab", "4"));
    Check.due("a longer value", 7, Check.child(x, 0, "a", "2", "ab", "34"));
    Check.due("another name", 8, Check.child(x, 0, "a", "2", "ac", "3"));
    Check.due("nine children", 9, x.look(0, 1));
    Check.due("eight of the one", 8, x.familyOf(0, 0, 1));
  }

  private static void labelsByRisingNames() {
    Check.sentence("It is kept by rising names (byte by byte, a beginning before what is longer).");
    MeterSheet x = gauges();
    String[][] orders = {{"a", "ab", "b"}, {"a", "b", "ab"}, {"ab", "a", "b"}, {"ab", "b", "a"}, {"b", "a", "ab"},
        {"b", "ab", "a"}};
    for (String[] order : orders) {
      Check.due("any order", 0, Check.child(x, 0, order[0], order[0], order[1], order[1], order[2], order[2]));
    }
    Check.due("bytes, not letters", 1, Check.child(x, 0, "a", "1", "_", "2", "Z", "3"));
    Check.due("digits before letters", 2, Check.child(x, 0, "aa", "1", "aA", "2", "a9", "3"));
    Check.due("the longest", 3, Check.child(x, 0, "abcdefgh", "1", "abcdefg", "2", "abcdefgi", "3"));
    Check.due("all kept so", "# TYPE g gauge\ng{a=\"a\",ab=\"ab\",b=\"b\"} 0\ng{Z=\"3\",_=\"2\",a=\"1\"} 0\n"
        + "g{a9=\"3\",aA=\"2\",aa=\"1\"} 0\ng{abcdefg=\"2\",abcdefgh=\"1\",abcdefgi=\"3\"} 0\n", Check.written(x, 0, 1));
  }

  private static void labelNameLengths() {
    Check.sentence("A LABEL has a name, 1 .. 8 bytes");
    dueSet("no byte", false, "\1v\2");
    dueSet("one byte", true, "a\1v\2");
    dueSet("eight bytes", true, "abcdefgh\1v\2");
    dueSet("nine bytes", false, "abcdefghi\1v\2");
  }

  private static void labelNameBytes() {
    Check.sentence("(a .. z, A .. Z, _, and but for the first 0 .. 9)");
    for (int b = 0; b < 256; b++) {
      boolean first = b >= 'a' && b <= 'z' || b >= 'A' && b <= 'Z' || b == '_';
      boolean later = first || b >= '0' && b <= '9';
      dueSet("byte " + b + " alone", first, (char) b + "\1v\2");
      dueSet("byte " + b + " first", first, (char) b + "b\1v\2");
      if (b != 1) {
        dueSet("byte " + b + " behind", later, "b" + (char) b + "\1v\2");
        dueSet("byte " + b + " inside", later, "b" + (char) b + "b\1v\2");
      }
    }
  }

  private static void labelNamesWithTwo() {
    Check.sentence("not beginning with two _");
    dueSet("one", true, "_\1v\2");
    dueSet("one and more", true, "_a\1v\2");
    dueSet("two", false, "__\1v\2");
    dueSet("two and more", false, "__a\1v\2");
    dueSet("two later", true, "a__\1v\2");
    dueSet("one, and one later", true, "_a_\1v\2");
  }

  private static void labelValueLengths() {
    Check.sentence("and a value, 0 .. 12 bytes of 10 and 32 .. 126.");
    dueSet("no byte", true, "a\1\2");
    dueSet("12 bytes", true, "a\001123456789012\2");
    dueSet("13 bytes", false, "a\0011234567890123\2");
    dueSet("very many bytes", false, "a\1" + "v".repeat(300) + "\2");
  }

  private static void labelValueBytes() {
    Check.sentence("and a value, 0 .. 12 bytes of 10 and 32 .. 126.");
    for (int b = 0; b < 256; b++) {
      boolean good = b == 10 || b >= 32 && b <= 126;
      if (b != 2) {
        dueSet("byte " + b, good, "a\1" + (char) b + "\2");
        dueSet("byte " + b + " first", good, "a\1" + (char) b + "x\2");
        dueSet("byte " + b + " last", good, "a\001xx" + (char) b + "\2");
      }
    }
  }

  private static void labelSetsThatAreNone() {
    Check.sentence("for each label its name, a byte 1, its value, a byte 2");
    dueSet("none at all", true, "");
    for (String tape : new String[] {"a", "a\1", "a\1b", "\1", "\2", "\1\2", "a\2", "a\2\1", "a\1\1\2", "a\1v\1\2", "a\1\2\2",
        "a\1\2 ", "a\1\2b", "a\1\2b\1", "a\1\2b\1v", "a\1\2b\2", "a\1\2\1\2", "\2a\1\2", " a\1\2", "a\1\2\0"}) {
      dueSet("tape <" + tape + ">", false, tape);
    }
    Check.refused("no set", Check.ARGUMENT, "a\1", true, x -> x.child(1));
  }

  private static void namesAllDifferent() {
    Check.sentence("names all different.");
    MeterSheet x = gauges();
    Check.dueThrow("two", Check.ARGUMENT, () -> Check.child(x, 0, "a", "1", "a", "2"));
    Check.dueThrow("two, with one value", Check.ARGUMENT, () -> Check.child(x, 0, "a", "1", "a", "1"));
    Check.dueThrow("first and second", Check.ARGUMENT, () -> Check.child(x, 0, "a", "", "a", "", "b", ""));
    Check.dueThrow("first and third", Check.ARGUMENT, () -> Check.child(x, 0, "a", "", "b", "", "a", ""));
    Check.dueThrow("second and third", Check.ARGUMENT, () -> Check.child(x, 0, "b", "", "a", "", "a", ""));
    Check.due("no child is there", 0, x.look(0, 1));
    Check.due("a beginning is another name", 0, Check.child(x, 0, "a", "", "aa", "", "aaa", ""));
    Check.due("small and big letters are", 1, Check.child(x, 0, "a", "", "A", ""));
  }

  private static void atMostThreeLabels() {
    Check.sentence("with a label set of at most 3 labels, which no other child of that family has");
    MeterSheet x = gauges();
    Check.due("three of the longest", 0, Check.child(x, 0, "abcdefgh", "123456789012", "abcdefgi", "123456789012",
        "abcdefgj", "123456789012"));
    Check.due("their bytes", 66, x.childOf(0, 0, 1));
    Check.dueThrow("four", Check.ARGUMENT, () -> Check.child(x, 0, "a", "", "b", "", "c", "", "d", ""));
    Check.dueThrow("five", Check.ARGUMENT, () -> Check.child(x, 0, "a", "", "b", "", "c", "", "d", "", "e", ""));
    Check.due("the tape is used up", 0, Check.tapeSize(x));
    Check.due("one child", 1, x.look(0, 1));
    Check.refused("four change nothing", Check.ARGUMENT, Check.set("a", "", "b", "", "c", "", "d", ""), true,
        y -> y.child(1));
  }

  private static void labelsThatKindsHaveThemselves() {
    Check.sentence("none is le in a HISTOGRAM, or has the family's name in a STATESET.");
    MeterSheet x = new MeterSheet();
    String[] names = {"c", "g", "h", "i", "s"};
    for (int kind = 0; kind < 5; kind++) {
      Check.family(x, kind, names[kind]);
    }
    Check.state(x, 4, "on");
    for (int kind = 0; kind < 5; kind++) {
      int k = kind;
      if (kind == Check.HISTOGRAM) {
        Check.dueThrow("le", Check.ARGUMENT, () -> Check.child(x, k, "le", "1"));
        Check.dueThrow("le last", Check.ARGUMENT, () -> Check.child(x, k, "a", "1", "b", "", "le", "1"));
        Check.dueThrow("le first", Check.ARGUMENT, () -> Check.child(x, k, "le", "", "m", "", "n", ""));
        Check.due("le is used up", 0, Check.tapeSize(x));
      } else {
        Check.child(x, kind, "le", "1");
        Check.due("le in kind " + kind, 5, x.childOf(0, x.look(0, 1) - 1, 1));
      }
      if (kind == Check.STATESET) {
        Check.dueThrow("its name", Check.ARGUMENT, () -> Check.child(x, k, "s", "1"));
        Check.dueThrow("its name last", Check.ARGUMENT, () -> Check.child(x, k, "a", "", "b", "", "s", "1"));
        Check.dueThrow("its name first", Check.ARGUMENT, () -> Check.child(x, k, "s", "", "t", "", "u", ""));
      } else {
        Check.child(x, kind, names[kind], "1");
        Check.due("its name in kind " + kind, 4, x.childOf(0, x.look(0, 1) - 1, 1));
      }
    }
    Check.child(x, Check.HISTOGRAM, "l", "", "lea", "", "Le", "");
    Check.child(x, Check.STATESET, "ss", "", "S", "", "c", "");
    Check.due("ten children", 10, x.look(0, 1));
  }

  private static void childrenOfNoFamily() {
    Check.sentence("Throws IllegalArgumentException when there is no such family, or the tape is no label set as said "
        + "(with the common one, too)");
    for (int family : new int[] {7, 8, -1, Integer.MIN_VALUE, Integer.MAX_VALUE}) {
      Check.refused("family " + family, Check.ARGUMENT, Check.set("a", "1"), true, x -> x.child(family));
    }
  }

  private static void statesetWithoutStates() {
    Check.sentence("UnsupportedOperationException when it is a STATESET without states");
    Check.refused("without states", Check.UNSUPPORTED, Check.set("a", "1"), true, x -> x.child(6));
    MeterSheet x = new MeterSheet();
    Check.family(x, Check.STATESET, "s");
    Check.family(x, Check.HISTOGRAM, "h");
    Check.dueThrow("without states and labels", Check.UNSUPPORTED, () -> x.child(0));
    Check.due("a histogram without bounds", 0, x.child(1));
    Check.state(x, 0, "");
    Check.due("with a state", 1, x.child(0));
  }

  private static void childThatIsThere() {
    Check.sentence("its number, the least that is free, if it is made now.");
    MeterSheet x = gauges();
    Check.child(x, 0);
    Check.child(x, 0, "a", "1", "b", "2");
    x.set(1, 77);
    Check.due("in another order", 1, Check.child(x, 0, "b", "2", "a", "1"));
    Check.due("without labels", 0, x.child(0));
    Check.due("the tape is used up", 0, Check.tapeSize(x));
    Check.due("no new one", 2, x.look(0, 1));
    Check.due("it is as it was", 77, x.childOf(0, 1, 2));
    x.cap(0, 0);
    Check.due("though none may be made", 1, Check.child(x, 0, "b", "2", "a", "1"));
  }

  private static void familyWithAsManyAsItMay() {
    Check.sentence("IllegalStateException when it is not there, and the family has as many as it may, or there are 24.");
    Check.refused("one of one", Check.STATE, Check.set("a", "1"), true, x -> x.child(3));
    MeterSheet x = gauges();
    x.cap(0, 3);
    for (int k = 0; k < 3; k++) {
      Check.due("child " + k, k, Check.child(x, 0, "k", "" + k));
    }
    Check.dueThrow("a fourth", Check.STATE, () -> Check.child(x, 0, "k", "3"));
    Check.due("the tape is used up", 0, Check.tapeSize(x));
    Check.due("three", 3, x.look(0, 1));
    Check.due("one of them", 2, Check.child(x, 0, "k", "2"));
  }

  private static void twentyFour() {
    Check.sentence("IllegalStateException when it is not there, and the family has as many as it may, or there are 24.");
    MeterSheet x = gauges();
    Check.family(x, Check.INFO, "b");
    for (int k = 0; k < 24; k++) {
      Check.due("child " + k, k, Check.child(x, k % 2, "k", "" + k));
    }
    Check.dueThrow("one more", Check.STATE, () -> Check.child(x, 0, "k", "24"));
    Check.dueThrow("one more without labels", Check.STATE, () -> x.child(1));
    Check.due("24 of them", 24, x.look(0, 1));
    Check.due("one that is there", 23, Check.child(x, 1, "k", "23"));
    Check.dueThrow("no child 24", Check.NO_ELEMENT, () -> x.childOf(0, 24, 0));
    x.remove(7);
    Check.due("room again", 7, Check.child(x, 0, "k", "24"));
    Check.dueThrow("but no more", Check.STATE, () -> Check.child(x, 0, "k", "25"));
    x.remove(23);
    Check.due("room for the last", 23, Check.child(x, 1, "k", "25"));
  }

  private static void childListedFirst() {
    Check.sentence("Of several exceptions that hold the one listed first is thrown");
    MeterSheet x = new MeterSheet();
    Check.family(x, Check.STATESET, "s");
    x.cap(0, 0);
    Check.dueThrow("no set, no states, no room", Check.ARGUMENT, () -> Check.child(x, 0, "9", ""));
    Check.dueThrow("its name, no states", Check.ARGUMENT, () -> Check.child(x, 0, "s", ""));
    Check.dueThrow("no states, no room", Check.UNSUPPORTED, () -> x.child(0));
    Check.state(x, 0, "on");
    Check.dueThrow("no set, no room", Check.ARGUMENT, () -> Check.child(x, 0, "9", ""));
    Check.dueThrow("no room", Check.STATE, () -> x.child(0));
    x.cap(0, 1);
    Check.due("room", 0, x.child(0));
  }

  private static void newChildren() {
    Check.sentence("COUNTER: a total, 0 at first, maybe an EXEMPLAR, the time of its CREATION.");
    MeterSheet x = new MeterSheet();
    for (int kind = 0; kind < 5; kind++) {
      Check.family(x, kind, "k" + kind);
    }
    x.bound(2, 5);
    Check.state(x, 4, "on");
    x.tick(33);
    for (int kind = 0; kind < 5; kind++) {
      x.child(kind);
      Check.due("its family " + kind, kind, x.childOf(0, kind, 0));
      Check.due("its number " + kind, 0, x.childOf(0, kind, 2));
      Check.due("its observations " + kind, 0, x.childOf(0, kind, 3));
      Check.due("its creation " + kind, kind == 0 || kind == 2 ? 33 : -1, x.childOf(0, kind, 4));
      Check.due("its states " + kind, 0, x.childOf(0, kind, 5));
    }
    x.tick(1);
    x.child(0);
    Check.due("the time of creation stays", 33, x.childOf(0, 0, 4));
    Check.due("no exemplars", 0, x.look(0, 2));
  }

  private static void leastNumberThatIsFree() {
    Check.sentence("its number, the least that is free, if it is made now.");
    MeterSheet x = gauges();
    for (int k = 0; k < 5; k++) {
      Check.child(x, 0, "k", "" + k);
    }
    x.remove(3);
    x.remove(1);
    x.remove(2);
    Check.due("the least", 1, Check.child(x, 0, "k", "9"));
    Check.due("the next", 2, Check.child(x, 0, "k", "1"));
    Check.due("one that is there", 4, Check.child(x, 0, "k", "4"));
    Check.due("the last of those", 3, Check.child(x, 0, "k", "2"));
    Check.due("one behind all", 5, Check.child(x, 0, "k", "3"));
    x.remove(0);
    Check.due("the very least", 0, Check.child(x, 0, "k", "0"));
    Check.sentence("then for each child, in the order in which they were made, its SAMPLES.");
    Check.due("not by their numbers", "# TYPE g gauge\ng{k=\"4\"} 0\ng{k=\"9\"} 0\ng{k=\"1\"} 0\ng{k=\"2\"} 0\ng{k=\"3\"} 0\n"
        + "g{k=\"0\"} 0\n", Check.written(x, 0, 1));
  }

  private static void removing() {
    Check.sentence("A child is gone.");
    MeterSheet x = Check.ofAllKinds();
    Check.tape(x, "abc");
    for (int child = 0; child < 5; child++) {
      int c = child;
      x.remove(child);
      Check.due("one less", 4 - child, x.look(0, 1));
      Check.due("none of the family", 0, x.familyOf(0, child, 1));
      Check.dueThrow("not to be seen", Check.NO_ELEMENT, () -> x.childOf(0, c, 0));
      Check.dueThrow("nor its bounds", Check.NO_ELEMENT, () -> x.bucket(0, c, 0, 0));
      Check.dueThrow("nor removed again", Check.NO_ELEMENT, () -> x.remove(c));
    }
    Check.due("no exemplars", 0, x.look(0, 2));
    Check.dueThrow("no add", Check.NO_ELEMENT, () -> x.add(0, 1, false));
    Check.dueThrow("no set", Check.NO_ELEMENT, () -> x.set(1, 1));
    Check.dueThrow("no observe", Check.NO_ELEMENT, () -> x.observe(2, 1, false));
    Check.dueThrow("no turn", Check.NO_ELEMENT, () -> x.turn(4, 0, true));
    Check.due("the families stay", 7, x.look(0, 0));
    Check.due("bounds and states stay", 4, x.familyOf(0, 2, 5) + x.familyOf(0, 4, 6));
    Check.due("what was read stays", 1, x.look(1, 1));
    Check.due("the tape stays", 3, Check.tapeSize(x));
  }

  private static void removingNone() {
    Check.sentence("Throws NoSuchElementException when there is none.");
    for (int child : new int[] {5, 6, 23, 24, 25, -1, Integer.MIN_VALUE, Integer.MAX_VALUE}) {
      Check.refused("child " + child, Check.NO_ELEMENT, "abc", false, x -> x.remove(child));
    }
  }

  /** A child with the number of one that is gone has nothing of it. */
  private static void numbersUsedAgain() {
    Check.sentence("HISTOGRAM: how many observations fell to each bound (the least that is not below them) and, last, beyond "
        + "all of them, 0 at first");
    MeterSheet x = new MeterSheet();
    int h = Check.family(x, Check.HISTOGRAM, "h");
    int s = Check.family(x, Check.STATESET, "s");
    int c = Check.family(x, Check.COUNTER, "c");
    Check.state(x, s, "on");
    for (int b = 1; b <= 6; b++) {
      x.bound(h, b);
    }
    Check.child(x, h, "a", "");
    x.tick(9);
    for (int v = 1; v <= 7; v++) {
      Check.observe(x, 0, v, "t", "1");
    }
    x.remove(0);
    Check.child(x, h);
    Check.due("its labels", 0, x.childOf(0, 0, 1));
    Check.due("no sum", 0, x.childOf(0, 0, 2));
    Check.due("no observations", 0, x.childOf(0, 0, 3));
    Check.due("its own time", 9, x.childOf(0, 0, 4));
    for (int b = 0; b < 7; b++) {
      for (int what = 1; what < 6; what++) {
        Check.due("bucket " + b + " " + what, 0, x.bucket(0, 0, b, what));
      }
    }
    Check.child(x, s);
    x.turn(1, 0, true);
    x.remove(1);
    Check.child(x, s);
    Check.due("no state is on", 0, x.childOf(0, 1, 5));
    x.remove(1);
    Check.child(x, c);
    Check.due("nothing of another kind", "0 0 9 0", x.childOf(0, 1, 2) + " " + x.childOf(0, 1, 3) + " "
        + x.childOf(0, 1, 4) + " " + x.childOf(0, 1, 5));
  }

  private static void commonLabel() {
    Check.sentence("A label that every child made from now on gets, if it has none of that name (and may have it)");
    MeterSheet x = gauges();
    Check.due("before", 0, Check.child(x, 0, "z", "1"));
    Check.common(x, "m", "all");
    Check.due("the tape is used up", 0, Check.tapeSize(x));
    Check.due("those that are there stay", 4, x.childOf(0, 0, 1));
    Check.due("a new one, with it", 1, Check.child(x, 0, "z", "1"));
    Check.due("the same", 1, Check.child(x, 0, "z", "1"));
    Check.due("told by itself", 1, Check.child(x, 0, "m", "all", "z", "1"));
    Check.due("first", 2, Check.child(x, 0, "n", "", "o", ""));
    Check.due("last", 3, Check.child(x, 0, "a", "", "b", ""));
    Check.due("alone", 4, x.child(0));
    Check.common(x, "n", "");
    Check.due("another one, instead", 5, Check.child(x, 0, "z", "1"));
    Check.due("of every family", 6, Check.child(x, Check.family(x, Check.INFO, "i")));
    Check.due("by rising names", "# TYPE g gauge\ng{z=\"1\"} 0\ng{m=\"all\",z=\"1\"} 0\ng{m=\"all\",n=\"\",o=\"\"} 0\n"
        + "g{a=\"\",b=\"\",m=\"all\"} 0\ng{m=\"all\"} 0\ng{n=\"\",z=\"1\"} 0\n# TYPE i_info gauge\ni_info{n=\"\"} 1\n",
        Check.written(x, 0, 1));
  }

  private static void commonLabelOfThatName() {
    Check.sentence("A label that every child made from now on gets, if it has none of that name (and may have it)");
    MeterSheet x = gauges();
    Check.common(x, "m", "all");
    Check.due("its own stays", 0, Check.child(x, 0, "m", "own", "z", "1"));
    Check.due("its bytes", 10, x.childOf(0, 0, 1));
    Check.due("three with it", 1, Check.child(x, 0, "a", "", "b", "", "m", ""));
    Check.due("their bytes", 9, x.childOf(0, 1, 1));
    Check.due("a longer name is another", 2, Check.child(x, 0, "mm", ""));
    Check.due("so both are there", 10, x.childOf(0, 2, 1));
  }

  private static void commonLabelThatMayNotBe() {
    Check.sentence("A label that every child made from now on gets, if it has none of that name (and may have it)");
    MeterSheet x = new MeterSheet();
    int h = Check.family(x, Check.HISTOGRAM, "h");
    int s = Check.family(x, Check.STATESET, "s");
    int g = Check.family(x, Check.GAUGE, "g");
    Check.state(x, s, "on");
    Check.common(x, "le", "1");
    Check.due("three labels of a histogram", 0, Check.child(x, h, "a", "", "b", "", "c", ""));
    Check.due("a histogram gets no le", 9, x.childOf(0, 0, 1));
    Check.child(x, s);
    Check.due("a stateset gets it", 5, x.childOf(0, 1, 1));
    Check.common(x, "s", "");
    Check.due("three labels of a stateset", 2, Check.child(x, s, "a", "", "b", "", "c", ""));
    Check.due("s gets no s", 9, x.childOf(0, 2, 1));
    Check.child(x, g);
    Check.due("g gets it", 3, x.childOf(0, 3, 1));
    Check.child(x, h);
    Check.due("h gets it", 3, x.childOf(0, 4, 1));
    Check.dueThrow("le of a histogram is still none", Check.ARGUMENT, () -> Check.child(x, h, "le", ""));
  }

  private static void commonLabelBesideThree() {
    Check.sentence("Throws IllegalArgumentException when there is no such family, or the tape is no label set as said "
        + "(with the common one, too)");
    MeterSheet x = gauges();
    Check.common(x, "m", "all");
    Check.dueThrow("three and the common one", Check.ARGUMENT, () -> Check.child(x, 0, "a", "", "b", "", "c", ""));
    Check.due("the tape is used up", 0, Check.tapeSize(x));
    Check.due("two and the common one", 0, Check.child(x, 0, "a", "", "b", ""));
    Check.due("three labels", 12, x.childOf(0, 0, 1));
    Check.refused("three change nothing", Check.ARGUMENT, Check.set("a", "", "b", "", "c", ""), true, y -> y.child(1));
    Check.common(x, "abcdefgh", "123456789012");
    Check.due("the longest and the longest", 1, Check.child(x, 0, "abcdefgj", "123456789012", "abcdefgi", "123456789012"));
    Check.due("their bytes", 66, x.childOf(0, 1, 1));
    Check.dueThrow("and one more of them", Check.ARGUMENT, () -> Check.child(x, 0, "abcdefgj", "123456789012", "abcdefgi",
        "123456789012", "abcdefgk", "123456789012"));
  }

  private static void noCommonLabel() {
    Check.sentence("the tape, which is used up, a set of one label, or of none: then there is none.");
    MeterSheet x = gauges();
    Check.common(x, "m", "1");
    Check.common(x);
    Check.due("without it", 0, Check.child(x, 0, "z", "1"));
    Check.due("its labels", 4, x.childOf(0, 0, 1));
    x.common();
    Check.due("none behind none", 0, Check.child(x, 0, "z", "1"));
  }

  private static void commonLabelsThatAreNone() {
    Check.sentence("Throws IllegalArgumentException when it is neither.");
    String[] wrong = {"a\1\2b\1\2", "a\1\2b", "a", "a\1", "__a\1\2", "a\1\3\2", "a\0011234567890123\2", "abcdefghi\1\2",
        "\1\2", "\2", "a\1\2\2", "a\1\2 "};
    for (String tape : wrong) {
      Check.refused("tape <" + tape + ">", Check.ARGUMENT, tape, true, x -> x.common());
    }
    MeterSheet x = gauges();
    Check.common(x, "m", "1");
    Check.dueThrow("two", Check.ARGUMENT, () -> Check.common(x, "a", "", "b", ""));
    Check.child(x, 0);
    Check.due("the earlier one stays", 4, x.childOf(0, 0, 1));
  }
}
