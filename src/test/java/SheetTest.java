/** Promises 22 to 26: same, look, familyOf, childOf, bucket. */
public final class SheetTest {
  public static void main(String[] args) {
    sameSheets();
    sheetsThatDiffer();
    boundsWithoutChildren();
    childrenInTheirOrder();
    looking();
    families();
    children();
    buckets();
    wrongArguments();
    Check.end();
  }

  private static final String[] LINES = {"# TYPE c_s counter", "# UNIT c_s s", "# HELP c_s h",
      "c_s_total{a=\"1\"} 1 # {t=\"1\"} 1 0", "c_s_created{a=\"1\"} 0", "c_s_total 0", "c_s_created 0", "# TYPE g gauge",
      "g -2.5", "# TYPE h histogram", "h_bucket{le=\"1\"} 1 # {} 0.5 0", "h_bucket{le=\"+Inf\"} 2", "h_count 2",
      "h_sum 2.5", "h_created 0", "# TYPE i info", "i_info{v=\"1\"} 1", "# TYPE s stateset", "s{s=\"on\"} 1",
      "s{s=\"off\"} 0", "# EOF"};

  private static String lines() {
    return String.join("\n", LINES) + "\n";
  }

  private static MeterSheet sheet() {
    MeterSheet x = new MeterSheet();
    Check.family(x, Check.COUNTER, "c_s", "s", "h");
    Check.family(x, Check.GAUGE, "g");
    Check.family(x, Check.HISTOGRAM, "h");
    Check.family(x, Check.INFO, "i");
    Check.family(x, Check.STATESET, "s");
    x.bound(2, 1000);
    Check.state(x, 4, "on");
    Check.state(x, 4, "off");
    Check.add(x, Check.child(x, 0, "a", "1"), 1000, "t", "1");
    Check.child(x, 0);
    x.set(Check.child(x, 1), -2500);
    Check.observe(x, Check.child(x, 2), 500);
    x.observe(3, 2000, false);
    Check.child(x, 3, "v", "1");
    x.turn(Check.child(x, 4), 0, true);
    return x;
  }

  private static void sameSheets() {
    MeterSheet x = sheet();
    Check.due("nothing read", false, x.same());
    Check.due("read", "0 at -1", Check.read(x, lines()));
    Check.due("the same", true, x.same());
    Check.due("as it is written", lines(), Check.written(x, 0, 0));
    x.tick(5);
    Check.due("the time does not count", true, x.same());
    x.cap(0, 2);
    Check.common(x, "m", "");
    Check.due("nor do caps and the common label", true, x.same());
    x.add(1, 0, false);
    Check.due("nor does a call that changes nothing", true, x.same());
    x.add(1, 1, false);
    Check.due("but what it has does", false, x.same());
    x.add(1, 1, false);
    Check.read(x, "#");
    Check.due("behind a fault nothing is read", false, x.same());
  }

  /** Each row: lines that take the place of another, which no longer make the same sheet. */
  private static void sheetsThatDiffer() {
    Object[][] changes = {{1, null}, {2, null}, {2, "# HELP c_s x"}, {3, "c_s_total{a=\"1\"} 2 # {t=\"1\"} 1 0"},
        {3, "c_s_total{a=\"1\"} 1"}, {3, "c_s_total{a=\"1\"} 1 # {t=\"2\"} 1 0"}, {3, "c_s_total{a=\"1\"} 1 # {t=\"1\"} 2 0"},
        {3, "c_s_total{a=\"1\"} 1 # {t=\"1\"} 1 0.001"}, {4, null}, {4, "c_s_created{a=\"1\"} 0.001"}, {6, null},
        {5, "c_s_total 0 # {} 0 0"}, {8, "g 2.5"}, {8, null}, {8, "g{a=\"\"} -2.5"}, {8, "g -2.5\ng{a=\"\"} 0"},
        {10, "h_bucket{le=\"0.5\"} 1 # {} 0.5 0"}, {10, "h_bucket{le=\"1\"} 0"}, {10, "h_bucket{le=\"1\"} 1"},
        {10, "h_bucket{le=\"1\"} 1 # {} 0.5 0\nh_bucket{le=\"2\"} 1"}, {10, null}, {13, "h_sum 2"}, {14, null},
        {15, "# TYPE j info\n# TYPE i info"}, {16, null}, {16, "i_info{v=\"2\"} 1"}, {18, "s{s=\"on\"} 0"},
        {18, "s{s=\"oN\"} 1"}, {19, "s{s=\"off\"} 1"}, {19, null}, {19, "s{s=\"off\"} 0\ns{s=\"x\"} 0"},
        {20, "# TYPE z gauge\n# EOF"}};
    MeterSheet kept = null;
    for (int k = 0; k < changes.length; k++) {
      kept = k % 5 == 0 ? sheet() : kept;
      StringBuilder text = new StringBuilder();
      for (int n = 0; n < LINES.length; n++) {
        Object line = changes[k][0].equals(n) ? changes[k][1] : LINES[n];
        text.append(line == null ? "" : line + "\n");
      }
      Check.due("change " + k + " is read", "0 at -1", Check.read(kept, text.toString()));
      Check.due("change " + k, false, kept.same());
    }
  }

  private static void boundsWithoutChildren() {
    MeterSheet x = new MeterSheet();
    Check.family(x, Check.HISTOGRAM, "h");
    Check.family(x, Check.STATESET, "s");
    x.bound(0, 5);
    Check.state(x, 1, "on");
    Check.read(x, "# TYPE h histogram\n# TYPE s stateset\n# EOF\n");
    Check.due("bounds and states do not count without children", true, x.same());
    Check.read(x, "# TYPE s stateset\n# TYPE h histogram\n# EOF\n");
    Check.due("the order of families does", false, x.same());
    Check.read(x, "# TYPE h gauge\n# TYPE s stateset\n# EOF\n");
    Check.due("and kinds do", false, x.same());
    Check.read(x, "# TYPE h histogram\n# TYPE t stateset\n# EOF\n");
    Check.due("and names do", false, x.same());
  }

  private static void childrenInTheirOrder() {
    MeterSheet x = new MeterSheet();
    Check.family(x, Check.GAUGE, "g");
    Check.family(x, Check.GAUGE, "k");
    Check.child(x, 0, "a", "0");
    Check.child(x, 1);
    Check.child(x, 0, "a", "1");
    x.remove(0);
    Check.child(x, 0, "a", "2");
    String k = "# TYPE k gauge\nk 0\n# EOF\n";
    Check.read(x, "# TYPE g gauge\ng{a=\"1\"} 0\ng{a=\"2\"} 0\n" + k);
    Check.due("in the order in which they were made", true, x.same());
    Check.read(x, "# TYPE g gauge\ng{a=\"2\"} 0\ng{a=\"1\"} 0\n" + k);
    Check.due("not by their numbers", false, x.same());
  }

  private static void looking() {
    MeterSheet x = sheet();
    Check.due("families", 5, x.look(0, 0));
    Check.due("children", 6, x.look(0, 1));
    Check.due("exemplars", 2, x.look(0, 2));
    Check.due("none read", 0, x.look(1, 0) + x.look(1, 1) + x.look(1, 2));
    Check.read(x, lines());
    x.remove(0);
    Check.due("children kept", 5, x.look(0, 1));
    Check.due("exemplars kept", 1, x.look(0, 2));
    Check.due("families read", 5, x.look(1, 0));
    Check.due("children read", 6, x.look(1, 1));
    Check.due("exemplars read", 2, x.look(1, 2));
  }

  private static void families() {
    MeterSheet x = sheet();
    Check.read(x, lines());
    for (int which = 0; which < 2; which++) {
      for (int kind = 0; kind < 5; kind++) {
        Check.due("kind", kind, x.familyOf(which, kind, 0));
      }
      Check.due("children of a counter", 2, x.familyOf(which, 0, 1));
      Check.due("children of a gauge", 1, x.familyOf(which, 1, 1));
      Check.due("bytes of a name", 3, x.familyOf(which, 0, 2));
      Check.due("bytes of a unit", 1, x.familyOf(which, 0, 3));
      Check.due("bytes of no unit", 0, x.familyOf(which, 1, 3));
      Check.due("bytes of a help", 1, x.familyOf(which, 0, 4));
      Check.due("bytes of no help", 0, x.familyOf(which, 4, 4));
      Check.due("bounds", 1, x.familyOf(which, 2, 5));
      Check.due("no bounds", 0, x.familyOf(which, 0, 5));
      Check.due("states", 2, x.familyOf(which, 4, 6));
      Check.due("no states", 0, x.familyOf(which, 2, 6));
    }
    Check.family(x, Check.GAUGE, "e", "", "\"\\\n");
    Check.due("bytes of a help, not as written", 3, x.familyOf(0, 5, 4));
    Check.read(x, "# TYPE e gauge\n# HELP e \\\"\\\\\\n\n# EOF\n");
    Check.due("bytes of a help that was read", 3, x.familyOf(1, 0, 4));
  }

  private static void children() {
    MeterSheet x = sheet();
    Check.read(x, lines());
    long[][] want = {{0, 4, 1000, 0, 0, 0}, {0, 0, 0, 0, 0, 0}, {1, 0, -2500, 0, -1, 0}, {2, 0, 2500, 2, 0, 0},
        {3, 4, 0, 0, -1, 0}, {4, 0, 0, 0, -1, 1}};
    for (int which = 0; which < 2; which++) {
      for (int child = 0; child < want.length; child++) {
        for (int what = 0; what < 6; what++) {
          Check.due(which + " child " + child + " " + what, want[child][what], x.childOf(which, child, what));
        }
      }
    }
    Check.read(x, "# TYPE c counter\nc_total 1\n# TYPE h histogram\nh_bucket{le=\"+Inf\"} 1\nh_count 1\nh_sum 1\n"
        + "h_created 0.5\n# EOF\n");
    Check.due("read without a time of creation", -1, x.childOf(1, 0, 4));
    Check.due("read with one", 500, x.childOf(1, 1, 4));
  }

  private static void buckets() {
    MeterSheet x = sheet();
    Check.read(x, lines());
    long[][] want = {{0, 0, 0, 0, 1, 1000, 0, 4}, {1, 0, 0, 0, 0, 0, 0, 0}, {3, 0, 1000, 1, 1, 500, 0, 0},
        {3, 1, 0, 1, 0, 0, 0, 0}};
    for (int which = 0; which < 2; which++) {
      for (long[] row : want) {
        for (int what = 0; what < 6; what++) {
          Check.due(which + " bucket " + row[0] + " " + row[1] + " " + what, row[2 + what],
              x.bucket(which, (int) row[0], (int) row[1], what));
        }
      }
      int w = which;
      Check.dueThrow("bound 1 of a counter", Check.NO_ELEMENT, () -> x.bucket(w, 0, 1, 0));
      Check.dueThrow("bound -1 of a counter", Check.NO_ELEMENT, () -> x.bucket(w, 0, -1, 0));
      Check.dueThrow("bound 2 of a histogram with one", Check.NO_ELEMENT, () -> x.bucket(w, 3, 2, 0));
      Check.dueThrow("bound -1 of a histogram", Check.NO_ELEMENT, () -> x.bucket(w, 3, -1, 5));
      Check.dueThrow("of a gauge", Check.NO_ELEMENT, () -> x.bucket(w, 2, 0, 0));
      Check.dueThrow("of an info", Check.NO_ELEMENT, () -> x.bucket(w, 4, 0, 0));
      Check.dueThrow("of a stateset", Check.NO_ELEMENT, () -> x.bucket(w, 5, 0, 0));
      Check.dueThrow("of no child", Check.NO_ELEMENT, () -> x.bucket(w, 6, 0, 0));
      Check.dueThrow("of child -1", Check.NO_ELEMENT, () -> x.bucket(w, -1, 0, 0));
      Check.dueThrow("of child 24", Check.NO_ELEMENT, () -> x.bucket(w, 24, 0, 0));
    }
  }

  private static void wrongArguments() {
    MeterSheet x = sheet();
    for (int which : new int[] {-1, 2}) {
      Check.dueThrow("look at sheet " + which, Check.ARGUMENT, () -> x.look(which, 0));
      Check.dueThrow("a family of sheet " + which, Check.ARGUMENT, () -> x.familyOf(which, 0, 0));
      Check.dueThrow("a child of sheet " + which, Check.ARGUMENT, () -> x.childOf(which, 99, 0));
      Check.dueThrow("a bucket of sheet " + which, Check.ARGUMENT, () -> x.bucket(which, 99, 0, 0));
    }
    Check.dueThrow("look -1", Check.ARGUMENT, () -> x.look(0, -1));
    Check.dueThrow("look 3", Check.ARGUMENT, () -> x.look(1, 3));
    Check.dueThrow("familyOf -1", Check.ARGUMENT, () -> x.familyOf(0, 0, -1));
    Check.dueThrow("familyOf 7", Check.ARGUMENT, () -> x.familyOf(0, 0, 7));
    Check.dueThrow("family 5", Check.ARGUMENT, () -> x.familyOf(0, 5, 0));
    Check.dueThrow("family -1", Check.ARGUMENT, () -> x.familyOf(0, -1, 0));
    Check.dueThrow("family 0 of none read", Check.ARGUMENT, () -> x.familyOf(1, 0, 0));
    Check.dueThrow("childOf -1", Check.ARGUMENT, () -> x.childOf(0, 99, -1));
    Check.dueThrow("childOf 6", Check.ARGUMENT, () -> x.childOf(0, 0, 6));
    Check.dueThrow("child 6", Check.NO_ELEMENT, () -> x.childOf(0, 6, 0));
    Check.dueThrow("child -1", Check.NO_ELEMENT, () -> x.childOf(0, -1, 0));
    Check.dueThrow("child 24", Check.NO_ELEMENT, () -> x.childOf(0, 24, 0));
    Check.dueThrow("child 0 of none read", Check.NO_ELEMENT, () -> x.childOf(1, 0, 0));
    Check.dueThrow("bucket -1", Check.ARGUMENT, () -> x.bucket(0, 99, 0, -1));
    Check.dueThrow("bucket 6", Check.ARGUMENT, () -> x.bucket(0, 0, 0, 6));
  }
}
