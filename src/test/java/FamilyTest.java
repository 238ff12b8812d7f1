/** Promises 6, 7, 8 and 10: family, bound, state, cap. */
public final class FamilyTest {
  private static final String FORTY = "0123456789012345678901234567890123456789";

  public static void main(String[] args) {
    familiesInOrder();
    kinds();
    nameLengths();
    nameBytes();
    helpLengths();
    helpBytes();
    tapesThatTellNone();
    unitLengths();
    unitBytes();
    unitAndName();
    unitAndKind();
    familyThatIsThere();
    familyThatIsThereWithAnother();
    ownNames();
    eightFamilies();
    familyListedFirst();
    familyUsesTheTapeUp();
    boundsRise();
    boundsOfNoHistogram();
    boundsThatAreNoNumbers();
    sixBounds();
    boundsBehindAChild();
    stateLengths();
    stateBytes();
    statesOfNoStateset();
    stateThatIsThere();
    fourStates();
    statesBehindAChild();
    caps();
    capsThatAreNone();
    capsBelowWhatIsThere();
    Check.end();
  }

  private static Object taken(int kind, String tape) {
    MeterSheet x = new MeterSheet();
    Check.tape(x, tape);
    try {
      return x.family(kind);
    } catch (IllegalArgumentException e) {
      return x.look(0, 0) == 0 ? "refused" : "refused, but there";
    }
  }

  private static void dueTaken(String what, boolean good, int kind, String tape) {
    Check.due(what, good ? (Object) 0 : "refused", taken(kind, tape));
  }

  private static boolean isLetter(int b) {
    return b >= 'a' && b <= 'z' || b >= 'A' && b <= 'Z';
  }

  private static boolean isDigit(int b) {
    return b >= '0' && b <= '9';
  }

  private static boolean isTextByte(int b) {
    return b == 10 || b >= 32 && b <= 126;
  }

  private static void familiesInOrder() {
    Check.sentence("the tape, which is used up, is its name, a byte 1, its unit, a byte 1, its help: its number.");
    MeterSheet x = new MeterSheet();
    Check.due("first", 0, Check.family(x, Check.COUNTER, "a"));
    Check.due("second", 1, Check.family(x, Check.GAUGE, ":b_9", "", "say \"it\"\\\n~"));
    Check.due("third", 2, Check.family(x, Check.HISTOGRAM, "__a_unit", "unit", "h"));
    Check.due("fourth", 3, Check.family(x, Check.INFO, "_"));
    Check.due("fifth", 4, Check.family(x, Check.STATESET, ":", "", FORTY));
    Check.due("how many", 5, x.look(0, 0));
    int[][] want = {{0, 1, 0, 0}, {1, 4, 0, 11}, {2, 8, 4, 1}, {3, 1, 0, 0}, {4, 1, 0, 40}};
    for (int k = 0; k < want.length; k++) {
      Check.due("kind " + k, want[k][0], x.familyOf(0, k, 0));
      Check.due("no children " + k, 0, x.familyOf(0, k, 1));
      for (int what = 2; what < 5; what++) {
        Check.due("bytes " + k + " " + what, want[k][what - 1], x.familyOf(0, k, what));
      }
      Check.due("no bounds and states " + k, 0, x.familyOf(0, k, 5) + x.familyOf(0, k, 6));
    }
    Check.due("all of it", "# TYPE a counter\n# TYPE :b_9 gauge\n# HELP :b_9 say \\\"it\\\"\\\\\\n~\n"
        + "# TYPE __a_unit histogram\n# UNIT __a_unit unit\n# HELP __a_unit h\n# TYPE _ info\n# TYPE : stateset\n"
        + "# HELP : " + FORTY + "\n# EOF\n", Check.written(x, 0, 0));
  }

  private static void kinds() {
    Check.sentence("Throws IllegalArgumentException when there is no such kind, or the tape is not as said");
    for (int kind = 0; kind < 5; kind++) {
      dueTaken("kind " + kind, true, kind, "a\1\1");
    }
    for (int kind : new int[] {-1, 5, 6, Integer.MIN_VALUE, Integer.MAX_VALUE}) {
      dueTaken("kind " + kind, false, kind, "a\1\1");
      Check.refused("no kind " + kind, Check.ARGUMENT, "a\1\1", true, x -> x.family(kind));
    }
  }

  private static void nameLengths() {
    Check.sentence("each with a NAME, 1 .. 24 bytes");
    for (int kind = 0; kind < 5; kind++) {
      dueTaken("no byte", false, kind, "\1\1");
      dueTaken("one byte", true, kind, "a\1\1");
      dueTaken("24 bytes", true, kind, "abcdefghijklmnopqrstuvwx\1\1");
      dueTaken("25 bytes", false, kind, "abcdefghijklmnopqrstuvwxy\1\1");
      dueTaken("very many bytes", false, kind, "a".repeat(300) + "\1\1");
    }
  }

  private static void nameBytes() {
    Check.sentence("(as of a label, and : as well, two _ allowed)");
    for (int b = 0; b < 256; b++) {
      boolean first = isLetter(b) || b == '_' || b == ':';
      dueTaken("byte " + b + " alone", first, Check.GAUGE, (char) b + "\1\1");
      dueTaken("byte " + b + " first", first, Check.GAUGE, (char) b + "b\1\1");
      if (b != 1) {
        dueTaken("byte " + b + " behind", first || isDigit(b), Check.GAUGE, "b" + (char) b + "\1\1");
        dueTaken("byte " + b + " inside", first || isDigit(b), Check.GAUGE, "b" + (char) b + "b\1\1");
      }
    }
    dueTaken("two _", true, Check.GAUGE, "__\1\1");
    dueTaken("two _ and more", true, Check.GAUGE, "__a\1\1");
  }

  private static void helpLengths() {
    Check.sentence("and a HELP, 0 .. 40 bytes of 10 and 32 .. 126.");
    for (int kind = 0; kind < 5; kind++) {
      dueTaken("no byte", true, kind, "a\1\1");
      dueTaken("40 bytes", true, kind, "a\1\1" + FORTY);
      dueTaken("41 bytes", false, kind, "a\1\1" + FORTY + "0");
      dueTaken("41 bytes with a unit", false, kind, "a_s\1s\1" + FORTY + "0");
    }
  }

  private static void helpBytes() {
    Check.sentence("and a HELP, 0 .. 40 bytes of 10 and 32 .. 126.");
    for (int b = 0; b < 256; b++) {
      dueTaken("byte " + b + " alone", isTextByte(b), Check.INFO, "a\1\1" + (char) b);
      dueTaken("byte " + b + " first", isTextByte(b), Check.INFO, "a\1\1" + (char) b + "x");
      dueTaken("byte " + b + " last", isTextByte(b), Check.INFO, "a\1\1x" + (char) b);
    }
  }

  private static void tapesThatTellNone() {
    Check.sentence("Throws IllegalArgumentException when there is no such kind, or the tape is not as said");
    for (String tape : new String[] {"", "a", "a\1", "\1", "\1\1", "a\1\1h\1", "a\1\1\1", "a\2\1", "a\1\2", "\1\1\1"}) {
      for (int kind = 0; kind < 5; kind++) {
        int k = kind;
        dueTaken("tape <" + tape + ">", false, kind, tape);
        Check.refused("tape <" + tape + "> " + kind, Check.ARGUMENT, tape, true, x -> x.family(k));
      }
    }
  }

  private static void unitLengths() {
    Check.sentence("a UNIT, 0 .. 8 bytes of a .. z, 0 .. 9, _");
    for (int kind = 0; kind < 3; kind++) {
      dueTaken("none", true, kind, "a_12345678\1\1");
      dueTaken("one byte", true, kind, "a_1\0011\1");
      dueTaken("eight bytes", true, kind, "a_12345678\00112345678\1");
      dueTaken("nine bytes", false, kind, "a_123456789\001123456789\1");
    }
  }

  private static void unitBytes() {
    Check.sentence("a UNIT, 0 .. 8 bytes of a .. z, 0 .. 9, _");
    for (int b = 0; b < 256; b++) {
      boolean good = b >= 'a' && b <= 'z' || isDigit(b) || b == '_';
      if (b != 1) {
        dueTaken("byte " + b, good, Check.COUNTER, "a_" + (char) b + "\1" + (char) b + "\1");
        dueTaken("byte " + b + " inside", good, Check.COUNTER, "a_x" + (char) b + "y\1x" + (char) b + "y\1");
      }
    }
  }

  private static void unitAndName() {
    Check.sentence("With a unit the name ends with _ and the unit, and has more before that");
    for (int kind = 0; kind < 3; kind++) {
      dueTaken("one byte before", true, kind, "a_s\1s\1");
      dueTaken("one _ before", true, kind, "__s\1s\1");
      dueTaken("nothing before", false, kind, "_s\1s\1");
      dueTaken("nothing but the unit", false, kind, "s\1s\1");
      dueTaken("less than the unit", false, kind, "s\1bytes\1");
      dueTaken("no _ before", false, kind, "abs\1s\1");
      dueTaken("another byte last", false, kind, "a_st\1sz\1");
      dueTaken("another byte first", false, kind, "a_st\1zt\1");
      dueTaken("not at the end", false, kind, "a_s_\1s\1");
      dueTaken("only its end", false, kind, "a_s\1ss\1");
      dueTaken("the name is the unit", false, kind, "a_s\1a_s\1");
      dueTaken("a long name", true, kind, "abcdefghijklmnopqrstuv_s\1s\1");
    }
  }

  private static void unitAndKind() {
    Check.sentence("INFO and STATESET have none.");
    dueTaken("of an info", false, Check.INFO, "a_s\1s\1");
    dueTaken("of a stateset", false, Check.STATESET, "a_s\1s\1");
    dueTaken("no unit of an info", true, Check.INFO, "a_s\1\1");
    dueTaken("no unit of a stateset", true, Check.STATESET, "a_s\1\1");
  }

  private static void familyThatIsThere() {
    Check.sentence("One that is there already in all is answered.");
    MeterSheet x = Check.ofAllKinds();
    Check.due("the counter", 0, Check.family(x, Check.COUNTER, "c_s", "s", "help"));
    Check.due("the gauge", 1, Check.family(x, Check.GAUGE, "g"));
    Check.due("the histogram", 2, Check.family(x, Check.HISTOGRAM, "h"));
    Check.due("the info", 3, Check.family(x, Check.INFO, "i"));
    Check.due("the stateset", 4, Check.family(x, Check.STATESET, "s"));
    Check.tape(x, "");
    MeterSheet y = Check.ofAllKinds();
    Check.tape(y, "");
    Check.due("and nothing changes", Check.all(y), Check.all(x));
  }

  private static void familyThatIsThereWithAnother() {
    Check.sentence("UnsupportedOperationException when a family with that name has another kind, unit or help");
    for (int kind = 0; kind < 5; kind++) {
      int k = kind;
      if (kind != Check.COUNTER) {
        Check.refused("kind " + kind + " for a counter", Check.UNSUPPORTED, "c_s\1\1help", true, x -> x.family(k));
      }
      if (kind != Check.GAUGE) {
        Check.refused("kind " + kind + " for a gauge", Check.UNSUPPORTED, "g\1\1", true, x -> x.family(k));
      }
    }
    Check.refused("no unit", Check.UNSUPPORTED, "c_s\1\1help", true, x -> x.family(Check.COUNTER));
    Check.refused("another help", Check.UNSUPPORTED, "c_s\1s\1helm", true, x -> x.family(Check.COUNTER));
    Check.refused("a longer help", Check.UNSUPPORTED, "c_s\1s\1help!", true, x -> x.family(Check.COUNTER));
    Check.refused("no help", Check.UNSUPPORTED, "c_s\1s\1", true, x -> x.family(Check.COUNTER));
    Check.refused("a help", Check.UNSUPPORTED, "g\1\1x", true, x -> x.family(Check.GAUGE));
    MeterSheet x = new MeterSheet();
    Check.family(x, Check.GAUGE, "a_b_c", "c", "");
    Check.dueThrow("a longer unit", Check.UNSUPPORTED, () -> Check.family(x, Check.GAUGE, "a_b_c", "b_c", ""));
    Check.family(x, Check.GAUGE, "z_u");
    Check.dueThrow("a unit", Check.UNSUPPORTED, () -> Check.family(x, Check.GAUGE, "z_u", "u", ""));
  }

  private static final String[][] ENDS = {{"", "_total", "_created"}, {""}, {"", "_bucket", "_count", "_sum", "_created"},
      {"", "_info"}, {""}};

  private static boolean haveOneInCommon(int kind, String name, int otherKind, String other) {
    for (String end : ENDS[kind]) {
      for (String otherEnd : ENDS[otherKind]) {
        if ((name + end).equals(other + otherEnd)) {
          return true;
        }
      }
    }
    return false;
  }

  /** Each two kinds, and each end behind the one name or the other. */
  private static void ownNames() {
    Check.sentence("COUNTER with _total, _created behind it; HISTOGRAM with _bucket, _count, _sum, _created; INFO with _info. "
        + "No two families have an own name in common.");
    String[] ends = {"", "_total", "_created", "_bucket", "_count", "_sum", "_info", "_gauge", "_tota", "_total_created",
        "_created_total", "_count_sum", "b", "_totals"};
    for (int kind = 0; kind < 5; kind++) {
      for (int other = 0; other < 5; other++) {
        for (String end : ends) {
          ownNamesOfTwo(kind, "a", other, "a" + end);
          ownNamesOfTwo(kind, "a" + end, other, "a");
        }
      }
    }
  }

  private static void ownNamesOfTwo(int kind, String name, int otherKind, String other) {
    MeterSheet x = new MeterSheet();
    Check.family(x, Check.INFO, "x");
    Check.family(x, kind, name);
    Check.family(x, Check.STATESET, "y");
    Object got;
    try {
      got = Check.family(x, otherKind, other);
    } catch (UnsupportedOperationException e) {
      got = x.look(0, 0) == 3 ? "refused" : "refused, but there";
    }
    boolean there = kind == otherKind && name.equals(other);
    Object want = there ? (Object) 1 : haveOneInCommon(kind, name, otherKind, other) ? "refused" : (Object) 3;
    Check.due("kind " + otherKind + " " + other + " beside kind " + kind + " " + name, want, got);
  }

  private static MeterSheet withEight() {
    MeterSheet x = new MeterSheet();
    for (int k = 0; k < 8; k++) {
      Check.due("family " + k, k, Check.family(x, k % 5, "f" + k));
    }
    return x;
  }

  private static void eightFamilies() {
    Check.sentence("IllegalStateException when there are 8.");
    MeterSheet x = withEight();
    Check.dueThrow("a ninth", Check.STATE, () -> Check.family(x, Check.GAUGE, "f8"));
    Check.due("the tape is used up", 0, Check.tapeSize(x));
    Check.due("there are eight", 8, x.look(0, 0));
    Check.dueThrow("no ninth is there", Check.ARGUMENT, () -> x.familyOf(0, 8, 0));
    Check.sentence("One that is there already in all is answered.");
    for (int k = 0; k < 8; k++) {
      Check.due("family " + k + " again", k, Check.family(x, k % 5, "f" + k));
    }
    Check.due("they are as they were", "# TYPE f0 counter\n# TYPE f1 gauge\n# TYPE f2 histogram\n# TYPE f3 info\n"
        + "# TYPE f4 stateset\n# TYPE f5 counter\n# TYPE f6 gauge\n# TYPE f7 histogram\n# EOF\n", Check.written(x, 0, 0));
  }

  private static void familyListedFirst() {
    Check.sentence("Of several exceptions that hold the one listed first is thrown");
    MeterSheet x = withEight();
    Check.dueThrow("no kind, and eight", Check.ARGUMENT, () -> Check.family(x, 5, "f8"));
    Check.dueThrow("no kind, and a name that is there", Check.ARGUMENT, () -> Check.family(x, -1, "f7"));
    Check.dueThrow("no name, and eight", Check.ARGUMENT, () -> Check.family(x, Check.GAUGE, "8"));
    Check.dueThrow("no help, and a name that is there", Check.ARGUMENT,
        () -> Check.family(x, Check.GAUGE, "f1", "", "\t"));
    Check.dueThrow("no unit, and a name that is there", Check.ARGUMENT, () -> Check.family(x, Check.GAUGE, "f1", "s", ""));
    Check.dueThrow("another kind, and eight", Check.UNSUPPORTED, () -> Check.family(x, Check.COUNTER, "f7"));
    Check.dueThrow("another help, and eight", Check.UNSUPPORTED, () -> Check.family(x, Check.GAUGE, "f1", "", "h"));
    Check.dueThrow("an own name, and eight", Check.UNSUPPORTED, () -> Check.family(x, Check.GAUGE, "f7_sum"));
    Check.due("the eighth stays", 2, x.familyOf(0, 7, 2));
  }

  private static void familyUsesTheTapeUp() {
    Check.sentence("calls that are said to use it up leave it empty, also when they throw.");
    MeterSheet x = withEight();
    String[] tapes = {"f0\1\1", "f0\1\1h", "f9\1\1", "9", ""};
    for (String tape : tapes) {
      Check.tape(x, tape);
      try {
        x.family(Check.COUNTER);
      } catch (RuntimeException e) {
        Check.due("only the first is there", false, tape.equals("f0\1\1"));
      }
      Check.due("behind <" + tape + ">", 0, Check.tapeSize(x));
    }
  }

  private static MeterSheet withHistogram() {
    MeterSheet x = new MeterSheet();
    Check.family(x, Check.GAUGE, "g");
    Check.family(x, Check.HISTOGRAM, "h");
    return x;
  }

  private static void boundsRise() {
    Check.sentence("Throws IllegalArgumentException when there is no such histogram, or it does not rise (or is no number)");
    MeterSheet x = withHistogram();
    Check.due("below 0", 1, x.bound(1, -5));
    Check.dueThrow("the same", Check.ARGUMENT, () -> x.bound(1, -5));
    Check.dueThrow("less", Check.ARGUMENT, () -> x.bound(1, -6));
    Check.due("one more", 2, x.bound(1, -4));
    Check.dueThrow("the first again", Check.ARGUMENT, () -> x.bound(1, -5));
    Check.due("0", 3, x.bound(1, 0));
    Check.dueThrow("0 again", Check.ARGUMENT, () -> x.bound(1, 0));
    Check.due("above 0", 4, x.bound(1, 1));
    Check.due("four are there", 4, x.familyOf(0, 1, 5));
    x.child(1);
    long[] want = {-5, -4, 0, 1, 0};
    for (int b = 0; b < 5; b++) {
      Check.due("bound " + b, want[b], x.bucket(0, 0, b, 0));
    }
    Check.refused("the same as the last", Check.ARGUMENT, "abc", false, y -> y.bound(2, 2500));
  }

  private static void boundsOfNoHistogram() {
    Check.sentence("Throws IllegalArgumentException when there is no such histogram, or it does not rise (or is no number)");
    for (int family : new int[] {0, 1, 3, 4, 6, 7, 8, -1, Integer.MIN_VALUE, Integer.MAX_VALUE}) {
      Check.refused("family " + family, Check.ARGUMENT, "abc", false, x -> x.bound(family, 9000));
    }
    MeterSheet x = Check.ofAllKinds();
    Check.tape(x, "abc");
    Check.due("family 5", 1, x.bound(5, 9000));
    Check.due("the tape stays", 3, Check.tapeSize(x));
  }

  private static void boundsThatAreNoNumbers() {
    Check.sentence("NUMBERS are longs that count thousandths, from -999999999999999 to 999999999999999.");
    for (long wrong : new long[] {-Check.MOST - 1, Check.MOST + 1, Long.MIN_VALUE, Long.MAX_VALUE}) {
      Check.refused("bound " + wrong, Check.ARGUMENT, "abc", false, x -> x.bound(5, wrong));
    }
    MeterSheet x = withHistogram();
    Check.due("the least", 1, x.bound(1, -Check.MOST));
    Check.dueThrow("none above it", Check.ARGUMENT, () -> x.bound(1, -Check.MOST));
    Check.due("the most", 2, x.bound(1, Check.MOST));
    Check.dueThrow("none above that", Check.ARGUMENT, () -> x.bound(1, Check.MOST + 1));
    Check.due("two are there", 2, x.familyOf(0, 1, 5));
  }

  private static void sixBounds() {
    Check.sentence("IllegalStateException when it has 6, or a child was ever made of it.");
    MeterSheet x = withHistogram();
    for (int k = 1; k <= 6; k++) {
      Check.due("bound " + k, k, x.bound(1, k));
    }
    Check.dueThrow("a seventh", Check.STATE, () -> x.bound(1, 7));
    Check.due("six are there", 6, x.familyOf(0, 1, 5));
    Check.sentence("Of several exceptions that hold the one listed first is thrown");
    Check.dueThrow("not rising, and six", Check.ARGUMENT, () -> x.bound(1, 6));
    Check.dueThrow("no number, and six", Check.ARGUMENT, () -> x.bound(1, Check.MOST + 1));
    Check.due("another has room", 1, x.bound(Check.family(x, Check.HISTOGRAM, "k"), 7));
  }

  private static void boundsBehindAChild() {
    Check.sentence("IllegalStateException when it has 6, or a child was ever made of it.");
    MeterSheet x = withHistogram();
    x.cap(1, 0);
    Check.dueThrow("no child is made", Check.STATE, () -> x.child(1));
    Check.due("so there is room", 1, x.bound(1, 5));
    x.cap(1, 1);
    x.child(1);
    Check.dueThrow("a child is there", Check.STATE, () -> x.bound(1, 6));
    x.remove(0);
    Check.dueThrow("a child was there", Check.STATE, () -> x.bound(1, 6));
    Check.due("one is there", 1, x.familyOf(0, 1, 5));
    Check.sentence("Of several exceptions that hold the one listed first is thrown");
    Check.dueThrow("not rising, and a child", Check.ARGUMENT, () -> x.bound(1, 5));
    Check.refused("a child, on the sheet of all kinds", Check.STATE, "abc", false, y -> y.bound(2, 2501));
  }

  private static Object stateTaken(String tape) {
    MeterSheet x = new MeterSheet();
    Check.family(x, Check.STATESET, "s");
    try {
      return Check.state(x, 0, tape);
    } catch (IllegalArgumentException e) {
      return x.familyOf(0, 0, 6) == 0 ? "refused" : "refused, but there";
    }
  }

  private static void stateLengths() {
    Check.sentence("each a text like the value of a label, all different.");
    Check.due("no byte", 1, stateTaken(""));
    Check.due("12 bytes", 1, stateTaken("123456789012"));
    Check.due("13 bytes", "refused", stateTaken("1234567890123"));
    Check.due("many bytes", "refused", stateTaken("a".repeat(300)));
    Check.refused("13 bytes change nothing", Check.ARGUMENT, "1234567890123", true, x -> x.state(6));
  }

  private static void stateBytes() {
    Check.sentence("each a text like the value of a label, all different.");
    for (int b = 0; b < 256; b++) {
      Object want = isTextByte(b) ? (Object) 1 : "refused";
      Check.due("byte " + b, want, stateTaken("" + (char) b));
      Check.due("byte " + b + " last", want, stateTaken("12345678901" + (char) b));
    }
  }

  private static void statesOfNoStateset() {
    Check.sentence("Throws IllegalArgumentException when there is no such stateset, it is no state, or it has it");
    for (int family : new int[] {0, 1, 2, 3, 5, 7, 8, -1, Integer.MIN_VALUE, Integer.MAX_VALUE}) {
      Check.refused("family " + family, Check.ARGUMENT, "on", true, x -> x.state(family));
    }
    MeterSheet x = Check.ofAllKinds();
    Check.due("family 6", 1, Check.state(x, 6, "on"));
    Check.due("the tape is used up", 0, Check.tapeSize(x));
  }

  private static void stateThatIsThere() {
    Check.sentence("Throws IllegalArgumentException when there is no such stateset, it is no state, or it has it");
    MeterSheet x = new MeterSheet();
    Check.family(x, Check.STATESET, "s");
    Check.family(x, Check.STATESET, "t");
    Check.due("an empty one", 1, Check.state(x, 0, ""));
    Check.dueThrow("an empty one again", Check.ARGUMENT, () -> Check.state(x, 0, ""));
    Check.due("a long one", 2, Check.state(x, 0, "\n23456789012"));
    Check.dueThrow("a long one again", Check.ARGUMENT, () -> Check.state(x, 0, "\n23456789012"));
    Check.due("used up by a throw", 0, Check.tapeSize(x));
    Check.due("one that differs last", 3, Check.state(x, 0, "\n23456789013"));
    Check.due("one that begins so", 4, Check.state(x, 0, "\n2345678901"));
    Check.due("of another stateset", 1, Check.state(x, 1, "\n23456789012"));
    Check.due("four are there", 4, x.familyOf(0, 0, 6));
  }

  private static void fourStates() {
    Check.sentence("IllegalStateException when it has 4, or a child was ever made of it.");
    MeterSheet x = new MeterSheet();
    Check.family(x, Check.STATESET, "s");
    for (int k = 1; k <= 4; k++) {
      Check.due("state " + k, k, Check.state(x, 0, "" + k));
    }
    Check.dueThrow("a fifth", Check.STATE, () -> Check.state(x, 0, "5"));
    Check.due("used up by a throw", 0, Check.tapeSize(x));
    Check.due("four are there", 4, x.familyOf(0, 0, 6));
    Check.sentence("Of several exceptions that hold the one listed first is thrown");
    for (int k = 1; k <= 4; k++) {
      String there = "" + k;
      Check.dueThrow("state " + k + ", and four", Check.ARGUMENT, () -> Check.state(x, 0, there));
    }
    Check.dueThrow("no state, and four", Check.ARGUMENT, () -> Check.state(x, 0, "\t"));
    Check.child(x, 0);
    Check.due("as they were", "# TYPE s gauge\ns{s=\"1\"} 0\ns{s=\"2\"} 0\ns{s=\"3\"} 0\ns{s=\"4\"} 0\n",
        Check.written(x, 0, 1));
  }

  private static void statesBehindAChild() {
    Check.sentence("IllegalStateException when it has 4, or a child was ever made of it.");
    MeterSheet x = new MeterSheet();
    Check.family(x, Check.STATESET, "s");
    Check.dueThrow("no child is made", Check.UNSUPPORTED, () -> Check.child(x, 0));
    Check.due("so there is room", 1, Check.state(x, 0, "on"));
    Check.child(x, 0);
    Check.dueThrow("a child is there", Check.STATE, () -> Check.state(x, 0, "off"));
    x.remove(0);
    Check.dueThrow("a child was there", Check.STATE, () -> Check.state(x, 0, "off"));
    Check.due("one is there", 1, x.familyOf(0, 0, 6));
    Check.sentence("Of several exceptions that hold the one listed first is thrown");
    Check.dueThrow("one that is there, and a child", Check.ARGUMENT, () -> Check.state(x, 0, "on"));
    Check.refused("a child, on the sheet of all kinds", Check.STATE, "new", true, y -> y.state(4));
  }

  private static void caps() {
    Check.sentence("How many children a family may have (24 at first).");
    MeterSheet x = new MeterSheet();
    Check.family(x, Check.GAUGE, "a");
    Check.family(x, Check.GAUGE, "b");
    x.cap(0, 0);
    Check.dueThrow("none may be", Check.STATE, () -> Check.child(x, 0));
    x.cap(0, 2);
    Check.due("one", 0, Check.child(x, 0, "l", "0"));
    Check.due("two", 1, Check.child(x, 0, "l", "1"));
    Check.dueThrow("three", Check.STATE, () -> Check.child(x, 0, "l", "2"));
    Check.due("of another family", 2, Check.child(x, 1, "l", "2"));
    x.cap(0, 24);
    for (int k = 3; k < 24; k++) {
      Check.due("child " + k, k, Check.child(x, 0, "l", "" + k));
    }
    MeterSheet y = new MeterSheet();
    Check.family(y, Check.GAUGE, "a");
    for (int k = 0; k < 24; k++) {
      Check.due("at first, child " + k, k, Check.child(y, 0, "l", "" + k));
    }
    Check.due("all of them", 24, y.familyOf(0, 0, 1));
  }

  private static void capsThatAreNone() {
    Check.sentence("Throws IllegalArgumentException when there is no such family, or most is not 0 .. 24.");
    for (int family : new int[] {7, 8, -1, Integer.MIN_VALUE, Integer.MAX_VALUE}) {
      Check.refused("family " + family, Check.ARGUMENT, "abc", false, x -> x.cap(family, 0));
    }
    for (int most : new int[] {-1, 25, Integer.MIN_VALUE, Integer.MAX_VALUE}) {
      Check.refused("most " + most, Check.ARGUMENT, "abc", false, x -> x.cap(1, most));
    }
    MeterSheet x = Check.ofAllKinds();
    Check.tape(x, "abc");
    for (int family = 0; family < 7; family++) {
      x.cap(family, 0);
      x.cap(family, 24);
    }
    Check.due("the tape stays", 3, Check.tapeSize(x));
    x.cap(1, 2);
    Check.dueThrow("a wrong one", Check.ARGUMENT, () -> x.cap(1, 25));
    Check.child(x, 1, "k", "1");
    Check.dueThrow("leaves the one before", Check.STATE, () -> Check.child(x, 1, "k", "2"));
  }

  private static void capsBelowWhatIsThere() {
    Check.sentence("How many children a family may have (24 at first).");
    MeterSheet x = new MeterSheet();
    Check.family(x, Check.GAUGE, "a");
    Check.child(x, 0, "l", "0");
    Check.child(x, 0, "l", "1");
    x.cap(0, 1);
    Check.due("those that are there stay", 1, Check.child(x, 0, "l", "1"));
    Check.due("both", 2, x.familyOf(0, 0, 1));
    x.remove(0);
    Check.dueThrow("still as many as may be", Check.STATE, () -> Check.child(x, 0, "l", "0"));
    x.remove(1);
    Check.due("room again", 0, Check.child(x, 0, "l", "3"));
    Check.sentence("One that is there already in all is answered.");
    Check.family(x, Check.GAUGE, "a");
    Check.dueThrow("and keeps its cap", Check.STATE, () -> Check.child(x, 0, "l", "4"));
  }
}
