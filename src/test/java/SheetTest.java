/** Promises 22 to 26: same, look, familyOf, childOf, bucket. */
public final class SheetTest {
  private static final int[] NO_SHEETS = {-1, 2, 3, Integer.MIN_VALUE, Integer.MAX_VALUE};
  private static final int[] FAR = {-1, -2, Integer.MIN_VALUE, Integer.MAX_VALUE};

  public static void main(String[] args) {
    sameSheets();
    sameBehindAnEarlierReading();
    sheetsThatDiffer();
    partsWithoutChildren();
    partsOfChildrenThatAreGone();
    familiesInTheirOrder();
    childrenInTheirOrder();
    childrenByFamilies();
    looking();
    lookingAtNone();
    families();
    familiesThatAreNone();
    children();
    childrenOfTheReadSheet();
    childrenThatAreNone();
    buckets();
    bucketsOfManyBounds();
    bucketsThatAreNone();
    listedFirst();
    lookingChangesNothing();
    Check.end();
  }

  private static final String[] LINES = {"# TYPE c_s counter", "# UNIT c_s s", "# HELP c_s h",
      "c_s_total{a=\"1\"} 1 # {t=\"1\"} 1 0", "c_s_created{a=\"1\"} 0", "c_s_total 0", "c_s_created 0", "# TYPE g gauge",
      "g -2.5", "# TYPE h histogram", "h_bucket{le=\"1\"} 1 # {} 0.5 0", "h_bucket{le=\"+Inf\"} 2", "h_count 2",
      "h_sum 2.5", "h_created 0", "# TYPE i info", "i_info{v=\"1\"} 1", "# TYPE s stateset", "s{s=\"on\"} 1",
      "s{s=\"off\"} 0", "# EOF"};

  private static String lines() {
    return String.join("\n", LINES) + "\n";
  }

  private static MeterSheet sheet() {
    MeterSheet x = new MeterSheet();
    Check.family(x, Check.COUNTER, "c_s", "s", "h");
    Check.family(x, Check.GAUGE, "g");
    Check.family(x, Check.HISTOGRAM, "h");
    Check.family(x, Check.INFO, "i");
    Check.family(x, Check.STATESET, "s");
    x.bound(2, 1000);
    Check.state(x, 4, "on");
    Check.state(x, 4, "off");
    Check.add(x, Check.child(x, 0, "a", "1"), 1000, "t", "1");
    Check.child(x, 0);
    x.set(Check.child(x, 1), -2500);
    Check.observe(x, Check.child(x, 2), 500);
    x.observe(3, 2000, false);
    Check.child(x, 3, "v", "1");
    x.turn(Check.child(x, 4), 0, true);
    return x;
  }

  private static MeterSheet sheetTwice() {
    MeterSheet x = sheet();
    Check.read(x, lines());
    return x;
  }

  private static void sameSheets() {
    Check.sentence("Whether the sheet that was read is the one that is kept");
    MeterSheet x = sheet();
    Check.due("nothing read", false, x.same());
    Check.due("read", "0 at -1", Check.read(x, lines()));
    Check.due("the same", true, x.same());
    Check.due("as it is written", lines(), Check.written(x, 0, 0));
    x.tick(5);
    Check.due("the time does not count", true, x.same());
    x.cap(0, 2);
    Check.common(x, "m", "");
    Check.due("nor do caps and the common label", true, x.same());
    x.add(2, 0, false);
    Check.due("nor does a call that changes nothing", true, x.same());
    x.add(2, 1, false);
    Check.due("but what it has does", false, x.same());
    x.add(2, -1, false);
    Check.due("it is the same again", true, x.same());
    Check.read(x, "#");
    Check.due("behind a fault nothing is read", false, x.same());
    MeterSheet y = new MeterSheet();
    Check.read(y, lines());
    Check.due("something read, nothing kept", false, y.same());
    Check.read(y, "# EOF\n");
    Check.due("nothing read, nothing kept", true, y.same());
    Check.read(y, "#");
    Check.due("nothing kept, and nothing behind a fault", true, y.same());
  }

  private static void sameBehindAnEarlierReading() {
    Check.sentence("Whether the sheet that was read is the one that is kept");
    MeterSheet x = sheet();
    for (int k = 0; k < 2; k++) {
      Check.read(x, "# TYPE h histogram\nh_bucket{le=\"2\"} 5 # {z=\"\"} 1 1\nh_bucket{le=\"+Inf\"} 9 # {} 9 9\nh_count 9\n"
          + "h_sum 9\nh_created 9\n# TYPE s stateset\ns{s=\"x\"} 1\ns{s=\"y\"} 1\ns{s=\"z\"} 1\n# EOF\n");
      Check.due("another one", false, x.same());
      Check.read(x, lines());
      Check.due("nothing of it is left", true, x.same());
    }
  }

  /** Each row: lines that take the place of another, which no longer make the same sheet. */
  private static void sheetsThatDiffer() {
    Check.sentence("families in order with the same names, kinds, units, helps and, if they have children, bounds or states; "
        + "children of each in order with the same label sets and all that they have.");
    Object[][] changes = {{1, null}, {2, null}, {2, "# HELP c_s x"}, {2, "# HELP c_s hh"},
        {3, "c_s_total{a=\"1\"} 2 # {t=\"1\"} 1 0"}, {3, "c_s_total{a=\"1\"} 1"},
        {3, "c_s_total{a=\"1\"} 1 # {t=\"2\"} 1 0"}, {3, "c_s_total{a=\"1\"} 1 # {u=\"1\"} 1 0"},
        {3, "c_s_total{a=\"1\"} 1 # {} 1 0"}, {3, "c_s_total{a=\"1\"} 1 # {t=\"1\"} 2 0"},
        {3, "c_s_total{a=\"1\"} 1 # {t=\"1\"} 1 0.001"}, {4, null}, {4, "c_s_created{a=\"1\"} 0.001"}, {6, null},
        {5, "c_s_total 0 # {} 0 0"}, {8, "g 2.5"}, {8, null}, {8, "g{a=\"\"} -2.5"}, {8, "g -2.5\ng{a=\"\"} 0"},
        {10, "h_bucket{le=\"0.5\"} 1 # {} 0.5 0"}, {10, "h_bucket{le=\"1\"} 0"}, {10, "h_bucket{le=\"1\"} 1"},
        {10, "h_bucket{le=\"1\"} 2 # {} 0.5 0"}, {11, "h_bucket{le=\"+Inf\"} 2 # {} 2 0"},
        {10, "h_bucket{le=\"1\"} 1 # {} 0.5 0\nh_bucket{le=\"2\"} 1"}, {10, null}, {13, "h_sum 2"}, {14, null},
        {14, "h_created 0.001"}, {15, "# TYPE j info\n# TYPE i info"}, {16, null}, {16, "i_info{v=\"2\"} 1"},
        {16, "i_info{w=\"1\"} 1"}, {16, "i_info{v=\"1\"} 1\ni_info 1"}, {18, "s{s=\"on\"} 0"}, {18, "s{s=\"oN\"} 1"},
        {19, "s{s=\"off\"} 1"}, {19, null}, {19, "s{s=\"off\"} 0\ns{s=\"x\"} 0"}, {20, "# TYPE z gauge\n# EOF"}};
    for (int k = 0; k < changes.length; k++) {
      MeterSheet x = sheet();
      StringBuilder text = new StringBuilder();
      for (int n = 0; n < LINES.length; n++) {
        Object line = changes[k][0].equals(n) ? changes[k][1] : LINES[n];
        text.append(line == null ? "" : line + "\n");
      }
      Check.due("change " + k + " is read", "0 at -1", Check.read(x, text.toString()));
      Check.due("change " + k, false, x.same());
    }
  }

  private static void partsWithoutChildren() {
    Check.sentence("if they have children, bounds or states");
    MeterSheet x = new MeterSheet();
    Check.family(x, Check.HISTOGRAM, "h");
    Check.family(x, Check.STATESET, "s");
    x.bound(0, 5);
    Check.state(x, 1, "on");
    Check.read(x, "# TYPE h histogram\n# TYPE s stateset\n# EOF\n");
    Check.due("they do not count without children", true, x.same());
    Check.read(x, "# TYPE h histogram\nh_bucket{le=\"0.005\"} 0\nh_bucket{le=\"+Inf\"} 0\nh_count 0\nh_sum 0\n"
        + "# TYPE s stateset\n# EOF\n");
    Check.due("children count", false, x.same());
  }

  private static void partsOfChildrenThatAreGone() {
    Check.sentence("if they have children, bounds or states");
    MeterSheet x = sheet();
    for (int k = 0; k < 6; k++) {
      x.remove(k);
    }
    String heads = "# TYPE c_s counter\n# UNIT c_s s\n# HELP c_s h\n# TYPE g gauge\n# TYPE h histogram\n# TYPE i info\n"
        + "# TYPE s stateset\n# EOF\n";
    Check.due("only heads", heads, Check.written(x, 0, 0));
    Check.read(x, heads);
    Check.due("they do not count behind their children", true, x.same());
  }

  private static void familiesInTheirOrder() {
    Check.sentence("families in order with the same names, kinds, units, helps");
    MeterSheet x = new MeterSheet();
    Check.family(x, Check.HISTOGRAM, "h");
    Check.family(x, Check.STATESET, "s");
    Check.read(x, "# TYPE h histogram\n# TYPE s stateset\n# EOF\n");
    Check.due("in order", true, x.same());
    for (String other : new String[] {"# TYPE s stateset\n# TYPE h histogram\n", "# TYPE h gauge\n# TYPE s stateset\n",
        "# TYPE h histogram\n# TYPE t stateset\n", "# TYPE h histogram\n", "# TYPE s stateset\n",
        "# TYPE h histogram\n# TYPE s info\n", "# TYPE h histogram\n# TYPE s stateset\n# TYPE t stateset\n",
        "# TYPE h histogram\n# HELP h h\n# TYPE s stateset\n", "# TYPE hh histogram\n# TYPE s stateset\n"}) {
      Check.due("read", "0 at -1", Check.read(x, other + "# EOF\n"));
      Check.due(other, false, x.same());
    }
  }

  private static void childrenInTheirOrder() {
    Check.sentence("children of each in order with the same label sets and all that they have.");
    MeterSheet x = new MeterSheet();
    Check.family(x, Check.GAUGE, "g");
    Check.family(x, Check.GAUGE, "k");
    Check.child(x, 0, "a", "0");
    Check.child(x, 1);
    Check.child(x, 0, "a", "1");
    x.remove(0);
    Check.child(x, 0, "a", "2");
    String k = "# TYPE k gauge\nk 0\n# EOF\n";
    Check.read(x, "# TYPE g gauge\ng{a=\"1\"} 0\ng{a=\"2\"} 0\n" + k);
    Check.due("in the order in which they were made", true, x.same());
    Check.read(x, "# TYPE g gauge\ng{a=\"2\"} 0\ng{a=\"1\"} 0\n" + k);
    Check.due("not by their numbers", false, x.same());
    Check.read(x, "# TYPE g gauge\ng{a=\"1\"} 0\n" + k);
    Check.due("one less", false, x.same());
    Check.read(x, "# TYPE g gauge\ng{a=\"1\"} 0\ng{a=\"2\"} 0\ng{a=\"3\"} 0\n" + k);
    Check.due("one more", false, x.same());
  }

  private static void childrenByFamilies() {
    Check.sentence("children of each in order with the same label sets and all that they have.");
    MeterSheet x = new MeterSheet();
    Check.family(x, Check.INFO, "a");
    Check.family(x, Check.INFO, "b");
    Check.child(x, 1, "k", "1");
    Check.child(x, 0, "k", "1");
    Check.child(x, 1, "k", "2");
    Check.read(x, "# TYPE a info\na_info{k=\"1\"} 1\n# TYPE b info\nb_info{k=\"1\"} 1\nb_info{k=\"2\"} 1\n# EOF\n");
    Check.due("only the order in each family counts", true, x.same());
    Check.read(x, "# TYPE a info\na_info{k=\"1\"} 1\na_info{k=\"2\"} 1\n# TYPE b info\nb_info{k=\"1\"} 1\n# EOF\n");
    Check.due("as many, but of another family", false, x.same());
    Check.read(x, "# TYPE a info\n# TYPE b info\nb_info{k=\"1\"} 1\nb_info{k=\"2\"} 1\nb_info{k=\"3\"} 1\n# EOF\n");
    Check.due("as many, but none of the first", false, x.same());
  }

  private static void looking() {
    Check.sentence("0 how many families, 1 how many children, 2 how many exemplars.");
    MeterSheet x = sheet();
    Check.due("kept", "5 6 2", x.look(0, 0) + " " + x.look(0, 1) + " " + x.look(0, 2));
    Check.due("none read", "0 0 0", x.look(1, 0) + " " + x.look(1, 1) + " " + x.look(1, 2));
    Check.read(x, lines());
    x.remove(0);
    Check.due("kept, one less", "5 5 1", x.look(0, 0) + " " + x.look(0, 1) + " " + x.look(0, 2));
    Check.due("read", "5 6 2", x.look(1, 0) + " " + x.look(1, 1) + " " + x.look(1, 2));
    Check.observe(x, 3, 5000);
    Check.due("another bound's", 2, x.look(0, 2));
    Check.observe(x, 3, 5000);
    Check.due("no other for the same bound", 2, x.look(0, 2));
    x.remove(3);
    Check.due("none", 0, x.look(0, 2));
    Check.read(x, "#");
    Check.due("none behind a fault", "0 0 0", x.look(1, 0) + " " + x.look(1, 1) + " " + x.look(1, 2));
  }

  private static void lookingAtNone() {
    Check.sentence("Throws IllegalArgumentException when there is no such sheet or what.");
    for (int which : NO_SHEETS) {
      Check.refused("sheet " + which, Check.ARGUMENT, "abc", false, x -> x.look(which, 0));
    }
    for (int what : new int[] {3, 4, -1, Integer.MIN_VALUE, Integer.MAX_VALUE}) {
      Check.refused("what " + what, Check.ARGUMENT, "abc", false, x -> x.look(0, what));
      Check.refused("what " + what + " read", Check.ARGUMENT, "abc", false, x -> x.look(1, what));
    }
  }

  private static void families() {
    Check.sentence("0 its kind, 1 how many children, 2, 3, 4 how many bytes its name, unit, help have, 5 how many bounds, "
        + "6 states.");
    MeterSheet x = sheetTwice();
    int[][] want = {{0, 2, 3, 1, 1, 0, 0}, {1, 1, 1, 0, 0, 0, 0}, {2, 1, 1, 0, 0, 1, 0}, {3, 1, 1, 0, 0, 0, 0},
        {4, 1, 1, 0, 0, 0, 2}};
    for (int which = 0; which < 2; which++) {
      for (int family = 0; family < 5; family++) {
        for (int what = 0; what < 7; what++) {
          Check.due(which + " family " + family + " " + what, want[family][what], x.familyOf(which, family, what));
        }
      }
    }
    Check.family(x, Check.GAUGE, "e", "", "\"\\\n");
    Check.due("bytes of a help, not as written", 3, x.familyOf(0, 5, 4));
    Check.read(x, "# TYPE e gauge\n# HELP e \\\"\\\\\\n\n# TYPE h histogram\n# TYPE s stateset\n# EOF\n");
    Check.due("bytes of a help that was read", 3, x.familyOf(1, 0, 4));
    Check.due("no bounds and states without children", 0, x.familyOf(1, 1, 5) + x.familyOf(1, 2, 6));
  }

  private static void familiesThatAreNone() {
    Check.sentence("Throws IllegalArgumentException when there is no such sheet, family or what.");
    for (int which : NO_SHEETS) {
      Check.refused("sheet " + which, Check.ARGUMENT, "abc", false, x -> x.familyOf(which, 0, 0));
    }
    for (int family : new int[] {7, 8, 9, -1, Integer.MIN_VALUE, Integer.MAX_VALUE}) {
      Check.refused("family " + family, Check.ARGUMENT, "abc", false, x -> x.familyOf(0, family, 0));
      Check.refused("family " + family + " read", Check.ARGUMENT, "abc", false, x -> x.familyOf(1, family, 0));
    }
    Check.refused("family 1 read", Check.ARGUMENT, "abc", false, x -> x.familyOf(1, 1, 0));
    for (int what : new int[] {7, 8, -1, Integer.MIN_VALUE, Integer.MAX_VALUE}) {
      Check.refused("what " + what, Check.ARGUMENT, "abc", false, x -> x.familyOf(0, 0, what));
      Check.refused("what " + what + " read", Check.ARGUMENT, "abc", false, x -> x.familyOf(1, 0, what));
    }
    MeterSheet x = sheetTwice();
    Check.read(x, "#");
    Check.dueThrow("none behind a fault", Check.ARGUMENT, () -> x.familyOf(1, 0, 0));
  }

  private static void children() {
    Check.sentence("0 its family, 1 how many bytes its label set has (as on the tape, by rising names), 2 its number, total "
        + "or sum (0 without one), 3 how many observations (0 without any), 4 the time of its creation (-1 without, or "
        + "when it was read without one), 5 which states are on (1, 2, 4, 8 together).");
    MeterSheet x = sheetTwice();
    long[][] want = {{0, 4, 1000, 0, 0, 0}, {0, 0, 0, 0, 0, 0}, {1, 0, -2500, 0, -1, 0}, {2, 0, 2500, 2, 0, 0},
        {3, 4, 0, 0, -1, 0}, {4, 0, 0, 0, -1, 1}};
    for (int which = 0; which < 2; which++) {
      for (int child = 0; child < want.length; child++) {
        for (int what = 0; what < 6; what++) {
          Check.due(which + " child " + child + " " + what, want[child][what], x.childOf(which, child, what));
        }
      }
    }
  }

  private static void childrenOfTheReadSheet() {
    Check.sentence("4 the time of its creation (-1 without, or when it was read without one)");
    MeterSheet x = new MeterSheet();
    Check.read(x, "# TYPE c counter\nc_total 1\nc_total{a=\"\"} 1\nc_created{a=\"\"} 0\n# TYPE h histogram\n"
        + "h_bucket{le=\"+Inf\"} 1\nh_count 1\nh_sum 1\nh_created 0.5\n"
        + "h_bucket{a=\"\\n\\\\\",le=\"+Inf\"} 1\nh_count{a=\"\\n\\\\\"} 1\nh_sum{a=\"\\n\\\\\"} -1\n# EOF\n");
    long[] created = {-1, 0, 500, -1};
    for (int child = 0; child < 4; child++) {
      Check.due("created " + child, created[child], x.childOf(1, child, 4));
      Check.due("family " + child, child / 2, x.childOf(1, child, 0));
    }
    Check.due("labels without what writing puts in", 5, x.childOf(1, 3, 1));
    Check.due("a sum below 0", -1000, x.childOf(1, 3, 2));
    Check.sentence("5 which states are on (1, 2, 4, 8 together).");
    for (int on = 0; on < 16; on++) {
      StringBuilder text = new StringBuilder("# TYPE s stateset\n");
      for (int k = 0; k < 4; k++) {
        text.append("s{s=\"").append(k).append("\"} ").append(on >> k & 1).append('\n');
      }
      Check.read(x, text + "# EOF\n");
      Check.due("states " + on, on, x.childOf(1, 0, 5));
    }
  }

  private static void childrenThatAreNone() {
    Check.sentence("Throws IllegalArgumentException when there is no such sheet or what; NoSuchElementException when there is "
        + "no such child.");
    for (int which : NO_SHEETS) {
      Check.refused("sheet " + which, Check.ARGUMENT, "abc", false, x -> x.childOf(which, 0, 0));
    }
    for (int what : new int[] {6, 7, -1, Integer.MIN_VALUE, Integer.MAX_VALUE}) {
      Check.refused("what " + what, Check.ARGUMENT, "abc", false, x -> x.childOf(0, 0, what));
      Check.refused("what " + what + " read", Check.ARGUMENT, "abc", false, x -> x.childOf(1, 0, what));
    }
    for (int child : new int[] {5, 6, 23, 24, 25, -1, Integer.MIN_VALUE, Integer.MAX_VALUE}) {
      Check.refused("child " + child, Check.NO_ELEMENT, "abc", false, x -> x.childOf(0, child, 0));
      Check.refused("child " + child + " read", Check.NO_ELEMENT, "abc", false, x -> x.childOf(1, child, 5));
    }
    Check.refused("child 1 read", Check.NO_ELEMENT, "abc", false, x -> x.childOf(1, 1, 5));
    MeterSheet x = sheetTwice();
    x.remove(2);
    Check.dueThrow("one that is gone", Check.NO_ELEMENT, () -> x.childOf(0, 2, 0));
    Check.due("it was read, though", 1, x.childOf(1, 2, 0));
    Check.read(x, "#");
    Check.dueThrow("none behind a fault", Check.NO_ELEMENT, () -> x.childOf(1, 0, 0));
  }

  private static void buckets() {
    Check.sentence("0 the bound itself (0 for the last, or a counter), 1 how many observations fell to it (0 for a counter), "
        + "2 whether it has an exemplar (1, 0), 3 its number, 4 its time, 5 the bytes of its label set (0 without one).");
    MeterSheet x = sheetTwice();
    long[][] want = {{0, 0, 0, 0, 1, 1000, 0, 4}, {1, 0, 0, 0, 0, 0, 0, 0}, {3, 0, 1000, 1, 1, 500, 0, 0},
        {3, 1, 0, 1, 0, 0, 0, 0}};
    for (int which = 0; which < 2; which++) {
      for (long[] row : want) {
        for (int what = 0; what < 6; what++) {
          Check.due(which + " bucket " + row[0] + " " + row[1] + " " + what, row[2 + what],
              x.bucket(which, (int) row[0], (int) row[1], what));
        }
      }
    }
  }

  private static void bucketsOfManyBounds() {
    Check.sentence("Of bound b of a histogram's child (the last one is beyond all; of a counter's: 0)");
    for (int bounds = 0; bounds <= 6; bounds++) {
      MeterSheet x = new MeterSheet();
      Check.family(x, Check.HISTOGRAM, "h");
      for (int b = 0; b < bounds; b++) {
        x.bound(0, 10 * b - 5);
      }
      Check.child(x, 0);
      x.write(0, 0);
      x.copy();
      Check.due("reading", 0, x.read());
      for (int which = 0; which < 2; which++) {
        int w = which;
        int behind = bounds + 1;
        for (int b = 0; b <= bounds; b++) {
          Check.due(bounds + " bounds, bound " + b, b < bounds ? 10 * b - 5 : 0, x.bucket(which, 0, b, 0));
        }
        Check.dueThrow(bounds + " bounds, none behind", Check.NO_ELEMENT, () -> x.bucket(w, 0, behind, 0));
      }
    }
  }

  private static void bucketsThatAreNone() {
    Check.sentence("Throws IllegalArgumentException when there is no such sheet or what; NoSuchElementException when there is "
        + "no such child or bound.");
    for (int which : NO_SHEETS) {
      Check.refused("sheet " + which, Check.ARGUMENT, "abc", false, x -> x.bucket(which, 0, 0, 0));
    }
    for (int what : new int[] {6, 7, -1, Integer.MIN_VALUE, Integer.MAX_VALUE}) {
      Check.refused("what " + what, Check.ARGUMENT, "abc", false, x -> x.bucket(0, 0, 0, what));
      Check.refused("what " + what + " of a histogram", Check.ARGUMENT, "abc", false, x -> x.bucket(0, 2, 0, what));
    }
    for (int child : new int[] {1, 3, 4, 5, 6, 23, 24, 25, -1, Integer.MIN_VALUE, Integer.MAX_VALUE}) {
      Check.refused("child " + child, Check.NO_ELEMENT, "abc", false, x -> x.bucket(0, child, 0, 0));
    }
    for (int far : FAR) {
      Check.refused("bound " + far + " of a counter", Check.NO_ELEMENT, "abc", false, x -> x.bucket(0, 0, far, 0));
      Check.refused("bound " + far + " of a histogram", Check.NO_ELEMENT, "abc", false, x -> x.bucket(0, 2, far, 0));
    }
    for (int b = 1; b < 8; b++) {
      int bound = b;
      Check.refused("bound " + b + " of a counter", Check.NO_ELEMENT, "abc", false, x -> x.bucket(0, 0, bound, 0));
    }
    for (int b = 3; b < 8; b++) {
      int bound = b;
      Check.refused("bound " + b + " of a histogram", Check.NO_ELEMENT, "abc", false, x -> x.bucket(0, 2, bound, 0));
    }
    MeterSheet y = sheetTwice();
    for (int child : new int[] {2, 4, 5, 6}) {
      Check.dueThrow("child " + child + " read", Check.NO_ELEMENT, () -> y.bucket(1, child, 0, 0));
    }
    Check.dueThrow("bound 1 of a counter read", Check.NO_ELEMENT, () -> y.bucket(1, 0, 1, 0));
    Check.dueThrow("bound 2 of a histogram read", Check.NO_ELEMENT, () -> y.bucket(1, 3, 2, 0));
    Check.read(y, "#");
    Check.dueThrow("none behind a fault", Check.NO_ELEMENT, () -> y.bucket(1, 0, 0, 0));
  }

  private static void listedFirst() {
    Check.sentence("Of several exceptions that hold the one listed first is thrown");
    Check.refused("no sheet, no child", Check.ARGUMENT, "abc", false, x -> x.childOf(2, 99, 0));
    Check.refused("no what, no child", Check.ARGUMENT, "abc", false, x -> x.childOf(0, 99, 6));
    Check.refused("no sheet, no bound", Check.ARGUMENT, "abc", false, x -> x.bucket(-1, 0, 99, 0));
    Check.refused("no what, no bound", Check.ARGUMENT, "abc", false, x -> x.bucket(0, 0, 99, 6));
    Check.refused("no what, no child for a bound", Check.ARGUMENT, "abc", false, x -> x.bucket(1, 99, 0, -1));
  }

  private static void lookingChangesNothing() {
    Check.sentence("a call that throws changes nothing but the tape where said.");
    MeterSheet x = Check.ofAllKinds();
    Check.tape(x, "abc");
    x.same();
    x.place();
    x.look(0, 2);
    x.familyOf(0, 2, 5);
    x.childOf(0, 2, 3);
    x.bucket(0, 2, 0, 5);
    MeterSheet y = Check.ofAllKinds();
    Check.tape(y, "abc");
    Check.due("nor does one that only looks", Check.all(y), Check.all(x));
  }
}
