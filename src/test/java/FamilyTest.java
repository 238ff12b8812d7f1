/** Promises 6, 7, 8 and 10: family, bound, state, cap. */
public final class FamilyTest {
  public static void main(String[] args) {
    familiesInOrder();
    familyThatIsThere();
    wrongTapes();
    units();
    clashes();
    eightFamilies();
    theTapeIsUsedUp();
    bounds();
    states();
    caps();
    Check.end();
  }

  private static void familiesInOrder() {
    MeterSheet x = new MeterSheet();
    Check.due("first", 0, Check.family(x, Check.COUNTER, "a"));
    Check.due("second", 1, Check.family(x, Check.GAUGE, ":b_9", "", "say \"it\"\\\n~"));
    Check.due("third", 2, Check.family(x, Check.HISTOGRAM, "__twentyfour_bytes_Azz9_"));
    Check.due("its name", 24, x.familyOf(0, 2, 2));
    Check.due("fourth", 3, Check.family(x, Check.INFO, "_"));
    Check.due("fifth", 4, Check.family(x, Check.STATESET, ":", "", "0123456789012345678901234567890123456789"));
    Check.due("its help", 40, x.familyOf(0, 4, 4));
  }

  private static void familyThatIsThere() {
    MeterSheet x = new MeterSheet();
    Check.family(x, Check.COUNTER, "other");
    Check.family(x, Check.COUNTER, "a_s", "s", "help");
    Check.due("there in all", 1, Check.family(x, Check.COUNTER, "a_s", "s", "help"));
    Check.dueThrow("another kind", Check.UNSUPPORTED, () -> Check.family(x, Check.GAUGE, "a_s", "s", "help"));
    Check.dueThrow("another unit", Check.UNSUPPORTED, () -> Check.family(x, Check.COUNTER, "a_s", "", "help"));
    Check.dueThrow("another help", Check.UNSUPPORTED, () -> Check.family(x, Check.COUNTER, "a_s", "s", "helm"));
    Check.due("still two", 2, x.look(0, 0));
  }

  private static void wrongTapes() {
    MeterSheet x = new MeterSheet();
    String[] wrong = {"", "a", "a\1", "\1\1", "9a\1\1", "a-b\1\1", "a b\1\1", "abcdefghijklmnopqrstuvwxy\1\1", "a\1\1h\1",
        "a\1\1\t", "a\1\1\177", "a\1\1\200", "a\1\1\2", "a\1\00101234567890123456789012345678901234567890", "\351\1\1",
        "a\1\1\0", "a\2\1"};
    for (String tape : wrong) {
      for (int kind = 0; kind < 5; kind++) {
        int k = kind;
        Check.dueThrow("tape <" + tape + ">", Check.ARGUMENT, () -> {
          Check.tape(x, tape);
          x.family(k);
        });
      }
    }
    Check.dueThrow("no kind -1", Check.ARGUMENT, () -> Check.family(x, -1, "a"));
    Check.dueThrow("no kind 5", Check.ARGUMENT, () -> Check.family(x, 5, "a"));
    Check.due("no family was made", 0, x.look(0, 0));
  }

  private static void units() {
    MeterSheet x = new MeterSheet();
    Check.due("a unit", 0, Check.family(x, Check.COUNTER, "a_s", "s", ""));
    Check.due("a long unit", 1, Check.family(x, Check.GAUGE, "a_0_bytes_", "0_bytes_", ""));
    Check.due("its bytes", 8, x.familyOf(0, 1, 3));
    Check.due("a unit of a histogram", 2, Check.family(x, Check.HISTOGRAM, "__s", "s", ""));
    Check.dueThrow("nothing before", Check.ARGUMENT, () -> Check.family(x, Check.GAUGE, "_s", "s", ""));
    Check.dueThrow("no _ before", Check.ARGUMENT, () -> Check.family(x, Check.GAUGE, "abs", "s", ""));
    Check.dueThrow("another end", Check.ARGUMENT, () -> Check.family(x, Check.GAUGE, "b_s", "z", ""));
    Check.dueThrow("longer than the name", Check.ARGUMENT, () -> Check.family(x, Check.GAUGE, "s", "bytes", ""));
    Check.dueThrow("as long as the name", Check.ARGUMENT, () -> Check.family(x, Check.GAUGE, "s", "s", ""));
    Check.dueThrow("nine bytes", Check.ARGUMENT, () -> Check.family(x, Check.GAUGE, "b_123456789", "123456789", ""));
    Check.dueThrow("a big letter", Check.ARGUMENT, () -> Check.family(x, Check.GAUGE, "b_S", "S", ""));
    Check.dueThrow("a colon", Check.ARGUMENT, () -> Check.family(x, Check.GAUGE, "b_:", ":", ""));
    Check.dueThrow("of an info", Check.ARGUMENT, () -> Check.family(x, Check.INFO, "b_s", "s", ""));
    Check.dueThrow("of a stateset", Check.ARGUMENT, () -> Check.family(x, Check.STATESET, "b_s", "s", ""));
  }

  private static void clashes() {
    int[] kinds = {Check.COUNTER, Check.COUNTER, Check.HISTOGRAM, Check.HISTOGRAM, Check.HISTOGRAM, Check.HISTOGRAM,
        Check.INFO};
    String[] ends = {"_total", "_created", "_bucket", "_count", "_sum", "_created", "_info"};
    for (int k = 0; k < ends.length; k++) {
      int kind = kinds[k];
      String taken = "a" + ends[k];
      MeterSheet x = new MeterSheet();
      Check.family(x, kind, "a");
      Check.dueThrow(taken + " is an own name of a", Check.UNSUPPORTED, () -> Check.family(x, Check.GAUGE, taken));
      MeterSheet y = new MeterSheet();
      Check.family(y, Check.GAUGE, taken);
      Check.dueThrow("a has " + taken, Check.UNSUPPORTED, () -> Check.family(y, kind, "a"));
      Check.due("a gauge a has not", 1, Check.family(y, Check.GAUGE, "a"));
      Check.due("ab has not", 2, Check.family(y, kind, "ab"));
    }
    MeterSheet z = new MeterSheet();
    Check.family(z, Check.COUNTER, "a");
    Check.due("only what the kind has", 1, Check.family(z, Check.GAUGE, "a_info"));
    Check.due("a_created of the one, a_total_created of the other", 2, Check.family(z, Check.HISTOGRAM, "a_sum"));
    Check.dueThrow("ends of both", Check.UNSUPPORTED, () -> Check.family(z, Check.COUNTER, "a_total"));
  }

  private static void eightFamilies() {
    MeterSheet x = new MeterSheet();
    for (int k = 0; k < 8; k++) {
      Check.due("family " + k, k, Check.family(x, Check.GAUGE, "f" + k));
    }
    Check.dueThrow("a ninth", Check.STATE, () -> Check.family(x, Check.GAUGE, "f8"));
    Check.dueThrow("a clash comes first", Check.UNSUPPORTED, () -> Check.family(x, Check.COUNTER, "f7"));
    Check.dueThrow("a wrong tape comes first", Check.ARGUMENT, () -> Check.family(x, Check.COUNTER, "7"));
    Check.due("one that is there", 7, Check.family(x, Check.GAUGE, "f7"));
    Check.due("its name stays", 2, x.familyOf(0, 7, 2));
  }

  private static void theTapeIsUsedUp() {
    MeterSheet x = new MeterSheet();
    Check.family(x, Check.GAUGE, "a");
    Check.due("behind family", 0, Check.tapeSize(x));
    Check.dueThrow("no kind", Check.ARGUMENT, () -> Check.family(x, 9, "a"));
    Check.due("behind a throw", 0, Check.tapeSize(x));
    Check.dueThrow("another kind", Check.UNSUPPORTED, () -> Check.family(x, Check.COUNTER, "a"));
    Check.due("behind another throw", 0, Check.tapeSize(x));
    Check.dueThrow("no stateset", Check.ARGUMENT, () -> Check.state(x, 0, "on"));
    Check.due("behind state's throw", 0, Check.tapeSize(x));
  }

  private static void bounds() {
    MeterSheet x = new MeterSheet();
    Check.family(x, Check.GAUGE, "g");
    int h = Check.family(x, Check.HISTOGRAM, "h");
    Check.dueThrow("of a gauge", Check.ARGUMENT, () -> x.bound(0, 1));
    Check.dueThrow("of none", Check.ARGUMENT, () -> x.bound(2, 1));
    Check.dueThrow("of -1", Check.ARGUMENT, () -> x.bound(-1, 1));
    Check.dueThrow("no number", Check.ARGUMENT, () -> x.bound(h, -Check.MOST - 1));
    Check.due("first", 1, x.bound(h, -Check.MOST));
    Check.dueThrow("not above", Check.ARGUMENT, () -> x.bound(h, -Check.MOST));
    Check.due("second", 2, x.bound(h, 1 - Check.MOST));
    Check.due("third", 3, x.bound(h, 0));
    Check.dueThrow("below", Check.ARGUMENT, () -> x.bound(h, -1));
    Check.due("fourth", 4, x.bound(h, 1));
    Check.dueThrow("too large", Check.ARGUMENT, () -> x.bound(h, Check.MOST + 1));
    Check.due("fifth", 5, x.bound(h, 2));
    Check.due("sixth", 6, x.bound(h, 3));
    Check.dueThrow("seventh", Check.STATE, () -> x.bound(h, 4));
    Check.dueThrow("not rising comes before full", Check.ARGUMENT, () -> x.bound(h, 3));
    int i = Check.family(x, Check.HISTOGRAM, "i");
    x.bound(i, 5);
    x.remove(Check.child(x, i));
    Check.dueThrow("a child was made", Check.STATE, () -> x.bound(i, 6));
    Check.dueThrow("not rising comes before that", Check.ARGUMENT, () -> x.bound(i, 5));
    Check.due("one is there", 1, x.familyOf(0, i, 5));
  }

  private static void states() {
    MeterSheet x = new MeterSheet();
    Check.family(x, Check.GAUGE, "g");
    int s = Check.family(x, Check.STATESET, "s");
    Check.dueThrow("of a gauge", Check.ARGUMENT, () -> Check.state(x, 0, "on"));
    Check.dueThrow("of none", Check.ARGUMENT, () -> Check.state(x, 2, "on"));
    Check.dueThrow("of -1", Check.ARGUMENT, () -> Check.state(x, -1, "on"));
    Check.dueThrow("13 bytes", Check.ARGUMENT, () -> Check.state(x, s, "1234567890123"));
    Check.dueThrow("a wrong byte", Check.ARGUMENT, () -> Check.state(x, s, "a\37"));
    Check.dueThrow("another wrong byte", Check.ARGUMENT, () -> Check.state(x, s, "\177"));
    Check.due("an empty one", 1, Check.state(x, s, ""));
    Check.due("its tape is used up", 0, Check.tapeSize(x));
    Check.dueThrow("an empty one again", Check.ARGUMENT, () -> Check.state(x, s, ""));
    Check.due("a long one", 2, Check.state(x, s, "\n23456789012"));
    Check.due("a third", 3, Check.state(x, s, "\""));
    Check.dueThrow("a long one again", Check.ARGUMENT, () -> Check.state(x, s, "\n23456789012"));
    Check.due("a fourth", 4, Check.state(x, s, "\\"));
    Check.dueThrow("a fifth", Check.STATE, () -> Check.state(x, s, "5"));
    Check.due("used up by a throw", 0, Check.tapeSize(x));
    Check.dueThrow("one again comes before full", Check.ARGUMENT, () -> Check.state(x, s, "\\"));
    int t = Check.family(x, Check.STATESET, "t");
    Check.state(x, t, "on");
    x.remove(Check.child(x, t));
    Check.dueThrow("a child was made", Check.STATE, () -> Check.state(x, t, "off"));
    Check.due("one is there", 1, x.familyOf(0, t, 6));
  }

  private static void caps() {
    MeterSheet x = new MeterSheet();
    int a = Check.family(x, Check.GAUGE, "a");
    int b = Check.family(x, Check.GAUGE, "b");
    Check.dueThrow("no family", Check.ARGUMENT, () -> x.cap(2, 1));
    Check.dueThrow("no family -1", Check.ARGUMENT, () -> x.cap(-1, 1));
    Check.dueThrow("below 0", Check.ARGUMENT, () -> x.cap(a, -1));
    Check.dueThrow("above 24", Check.ARGUMENT, () -> x.cap(a, 25));
    x.cap(a, 24);
    x.cap(a, 0);
    Check.dueThrow("none may be", Check.STATE, () -> Check.child(x, a));
    x.cap(a, 2);
    Check.due("one", 0, Check.child(x, a, "l", "0"));
    Check.due("two", 1, Check.child(x, a, "l", "1"));
    Check.dueThrow("three", Check.STATE, () -> Check.child(x, a, "l", "2"));
    Check.due("of another family", 2, Check.child(x, b, "l", "2"));
    x.cap(a, 1);
    Check.due("those that are there stay", 1, Check.child(x, a, "l", "1"));
    Check.due("both", 2, x.familyOf(0, a, 1));
    x.remove(0);
    Check.dueThrow("still as many as may be", Check.STATE, () -> Check.child(x, a, "l", "0"));
    x.remove(1);
    Check.due("room again", 0, Check.child(x, a, "l", "3"));
  }
}
