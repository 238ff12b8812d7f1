/** Promises 13 to 17: add, set, observe, turn, tick. On the sheet of all kinds a child's number is its kind. */
public final class MeasureTest {
  private static final int C = 0;
  private static final int G = 1;
  private static final int H = 2;
  private static final int I = 3;
  private static final int S = 4;
  private static final int[] NO_CHILDREN = {5, 6, 23, 24, 25, -1, Integer.MIN_VALUE, Integer.MAX_VALUE};
  private static final long[] NO_NUMBERS = {Check.MOST + 1, -Check.MOST - 1, Long.MAX_VALUE, Long.MIN_VALUE,
      Long.MAX_VALUE - Check.MOST, Long.MIN_VALUE + Check.MOST};
  private static final String[] NO_EXEMPLAR_SETS = {"a", "a\1", "a\1v", "\1\2", "\2", "a\1\2a\1\2", "abcdefghi\1\2",
      "a\0011234567890123\2", "__a\1\2", "9\1\2", "a:\1\2", "a\1\t\2", "a\1\2b\1\2c\1\2", "a\1\2b\1\2c", "a\1\2b\1\2 "};

  public static void main(String[] args) {
    totalsGrow();
    totalsThatWouldBeNone();
    gaugesChange();
    gaugesThatWouldBeNone();
    addToNone();
    addOfNoNumber();
    addBelowZero();
    addListedFirst();
    exemplarIsKept();
    exemplarThatIsOldEnough();
    exemplarSetsThatAreNone();
    exemplarSetsOfTwo();
    exemplarUsesTheTapeUp();
    gaugeKeepsNoExemplar();
    gaugeIsSet();
    setOfNone();
    observationsFall();
    observationsWithoutBounds();
    observationsThatAreNone();
    sumThatWouldBeNone();
    observeListedFirst();
    exemplarsOfBounds();
    statesTurn();
    turnOfNone();
    timeGoesOn();
    timeDoesNotGoBack();
    Check.end();
  }

  private static void totalsGrow() {
    Check.sentence("A counter's total grows; a gauge's number changes by v.");
    MeterSheet x = Check.ofAllKinds();
    x.add(C, 0, false);
    Check.due("by nothing", 2500, x.childOf(0, C, 2));
    x.add(C, 1, false);
    Check.due("by the least", 2501, x.childOf(0, C, 2));
    x.add(C, 1000000, false);
    Check.due("by much", 1002501, x.childOf(0, C, 2));
    Check.due("no other child does", "-5 1000", x.childOf(0, G, 2) + " " + x.childOf(0, H, 2));
  }

  private static void totalsThatWouldBeNone() {
    Check.sentence("IllegalStateException when the sum would be no number.");
    MeterSheet x = Check.ofAllKinds();
    x.add(C, Check.MOST - 2500, false);
    Check.due("the most", Check.MOST, x.childOf(0, C, 2));
    Check.dueThrow("one more", Check.STATE, () -> x.add(C, 1, false));
    Check.dueThrow("as many more", Check.STATE, () -> x.add(C, Check.MOST, false));
    x.add(C, 0, false);
    Check.due("it stays", Check.MOST, x.childOf(0, C, 2));
    Check.refused("one too many", Check.STATE, "abc", false, y -> y.add(C, Check.MOST - 2499, false));
    Check.refused("one too many with an exemplar", Check.STATE, Check.set("a", "1"), true,
        y -> y.add(C, Check.MOST - 2499, true));
  }

  private static void gaugesChange() {
    Check.sentence("A counter's total grows; a gauge's number changes by v.");
    MeterSheet x = Check.ofAllKinds();
    x.add(G, 5, false);
    Check.due("up to 0", 0, x.childOf(0, G, 2));
    x.add(G, -1, false);
    Check.due("below 0", -1, x.childOf(0, G, 2));
    x.add(G, 0, false);
    Check.due("by nothing", -1, x.childOf(0, G, 2));
    x.add(G, Check.MOST, false);
    Check.due("by the most", Check.MOST - 1, x.childOf(0, G, 2));
    x.add(G, -Check.MOST, false);
    Check.due("by the least", -1, x.childOf(0, G, 2));
  }

  private static void gaugesThatWouldBeNone() {
    Check.sentence("IllegalStateException when the sum would be no number.");
    MeterSheet x = Check.ofAllKinds();
    x.add(G, Check.MOST, false);
    x.add(G, 5, false);
    Check.due("the most", Check.MOST, x.childOf(0, G, 2));
    Check.dueThrow("one more", Check.STATE, () -> x.add(G, 1, false));
    Check.dueThrow("as many more", Check.STATE, () -> x.add(G, Check.MOST, false));
    x.set(G, -Check.MOST + 1);
    x.add(G, -1, false);
    Check.due("the least", -Check.MOST, x.childOf(0, G, 2));
    Check.dueThrow("one less", Check.STATE, () -> x.add(G, -1, false));
    Check.dueThrow("as many less", Check.STATE, () -> x.add(G, -Check.MOST, false));
    Check.due("it stays", -Check.MOST, x.childOf(0, G, 2));
    Check.refused("one too few", Check.STATE, "abc", false, y -> y.add(G, -Check.MOST + 4, false));
    Check.refused("one too few with an exemplar", Check.STATE, "", true, y -> y.add(G, -Check.MOST + 4, true));
  }

  private static void addToNone() {
    Check.sentence("Throws NoSuchElementException when there is no such counter or gauge");
    for (int child : new int[] {H, I, S}) {
      Check.refused("child " + child, Check.NO_ELEMENT, "abc", false, x -> x.add(child, 1, false));
      Check.refused("child " + child + " with an exemplar", Check.NO_ELEMENT, "a\1\2", true, x -> x.add(child, 1, true));
    }
    for (int child : NO_CHILDREN) {
      Check.refused("child " + child, Check.NO_ELEMENT, "abc", false, x -> x.add(child, 1, false));
      Check.refused("child " + child + " with an exemplar", Check.NO_ELEMENT, "a\1\2", true, x -> x.add(child, 1, true));
    }
  }

  private static void addOfNoNumber() {
    Check.sentence("IllegalArgumentException when v is no number, below 0 for a counter, or the tape is no set as said");
    for (long v : NO_NUMBERS) {
      for (int child : new int[] {C, G}) {
        Check.refused(v + " to " + child, Check.ARGUMENT, "abc", false, x -> x.add(child, v, false));
        Check.refused(v + " to " + child + " with an exemplar", Check.ARGUMENT, "a\1\2", true, x -> x.add(child, v, true));
      }
    }
  }

  private static void addBelowZero() {
    Check.sentence("IllegalArgumentException when v is no number, below 0 for a counter, or the tape is no set as said");
    for (long v : new long[] {-1, -2500, -2501, -Check.MOST}) {
      Check.refused(v + " to a counter", Check.ARGUMENT, "abc", false, x -> x.add(C, v, false));
      Check.refused(v + " to a counter with an exemplar", Check.ARGUMENT, "a\1\2", true, x -> x.add(C, v, true));
    }
    MeterSheet x = Check.ofAllKinds();
    x.add(G, -1, false);
    Check.due("to a gauge", -6, x.childOf(0, G, 2));
  }

  private static void addListedFirst() {
    Check.sentence("Of several exceptions that hold the one listed first is thrown");
    Check.refused("no child, no number", Check.NO_ELEMENT, "abc", false, x -> x.add(5, Long.MAX_VALUE, false));
    Check.refused("no counter, no number", Check.NO_ELEMENT, "abc", false, x -> x.add(H, Long.MIN_VALUE, false));
    Check.refused("no counter, no set", Check.NO_ELEMENT, "abc", true, x -> x.add(I, 1, true));
    Check.refused("no set, no sum", Check.ARGUMENT, "abc", true, x -> x.add(C, Check.MOST, true));
    Check.refused("no set of a gauge, no sum", Check.ARGUMENT, "abc", true, x -> x.add(G, -Check.MOST, true));
  }

  private static void exemplar(MeterSheet x, int child, int b, String want) {
    StringBuilder got = new StringBuilder();
    for (int what = 2; what < 6; what++) {
      got.append(what == 2 ? "" : " ").append(x.bucket(0, child, b, what));
    }
    Check.due("exemplar of " + child + " " + b, want, got.toString());
  }

  private static void exemplarIsKept() {
    Check.sentence("it is kept by a counter, with v and the time, if it has none, or one that is 1000 thousandths old or older.");
    MeterSheet x = new MeterSheet();
    Check.family(x, Check.COUNTER, "c");
    Check.child(x, 0);
    exemplar(x, 0, 0, "0 0 0 0");
    x.tick(10);
    x.add(0, 3, false);
    exemplar(x, 0, 0, "0 0 0 0");
    Check.add(x, 0, 2, "t", "1");
    exemplar(x, 0, 0, "1 2 10 4");
    Check.due("one exemplar", 1, x.look(0, 2));
    Check.due("the total grows", 5, x.childOf(0, 0, 2));
    Check.add(x, 0, 7, "u", "22");
    exemplar(x, 0, 0, "1 2 10 4");
    Check.due("the total grows all the same", 12, x.childOf(0, 0, 2));
    x.tick(5000);
    x.add(0, 7, false);
    exemplar(x, 0, 0, "1 2 10 4");
    Check.add(x, 0, 0);
    exemplar(x, 0, 0, "1 0 5010 0");
    Check.due("still one", 1, x.look(0, 2));
  }

  private static void exemplarThatIsOldEnough() {
    Check.sentence("it is kept by a counter, with v and the time, if it has none, or one that is 1000 thousandths old or older.");
    int[] ages = {0, 1, 999, 1000, 1001, Integer.MAX_VALUE};
    for (int age : ages) {
      MeterSheet x = new MeterSheet();
      Check.family(x, Check.COUNTER, "c");
      Check.family(x, Check.HISTOGRAM, "h");
      Check.child(x, 0);
      Check.child(x, 1);
      x.tick(7);
      Check.add(x, 0, 2500, "t", "1");
      Check.observe(x, 1, 1000, "t", "");
      x.tick(age);
      Check.add(x, 0, 9, "zz", "12");
      exemplar(x, 0, 0, age < 1000 ? "1 2500 7 4" : "1 9 " + (7L + age) + " 6");
      Check.observe(x, 1, 9, "zz", "12");
      exemplar(x, 1, 0, age < 1000 ? "1 1000 7 3" : "1 9 " + (7L + age) + " 6");
    }
  }

  private static void exemplarSetsThatAreNone() {
    Check.sentence("IllegalArgumentException when v is no number, below 0 for a counter, or the tape is no set as said");
    for (String tape : NO_EXEMPLAR_SETS) {
      Check.refused("counter <" + tape + ">", Check.ARGUMENT, tape, true, x -> x.add(C, 5, true));
      Check.refused("gauge <" + tape + ">", Check.ARGUMENT, tape, true, x -> x.add(G, 5, true));
    }
    Check.sentence("IllegalArgumentException when v is no number, below 0, or the tape is no set as said");
    for (String tape : NO_EXEMPLAR_SETS) {
      Check.refused("histogram <" + tape + ">", Check.ARGUMENT, tape, true, x -> x.observe(H, 5, true));
    }
  }

  private static void exemplarSetsOfTwo() {
    Check.sentence("a label set of at most 2 labels with at most 40 bytes of names and values in all, a number, a time.");
    MeterSheet x = new MeterSheet();
    Check.family(x, Check.COUNTER, "c");
    Check.family(x, Check.HISTOGRAM, "h");
    Check.child(x, 0);
    Check.child(x, 1);
    Check.add(x, 0, 1, "abcdefgi", "123456789012", "abcdefgh", "123456789013");
    exemplar(x, 0, 0, "1 1 0 44");
    Check.observe(x, 1, 1, "le", "x", "h", "");
    exemplar(x, 1, 0, "1 1 0 8");
    Check.due("by rising names", "# TYPE c counter\n"
        + "c_total 0.001 # {abcdefgh=\"123456789013\",abcdefgi=\"123456789012\"} 0.001 0\nc_created 0\n"
        + "# TYPE h histogram\nh_bucket{le=\"+Inf\"} 1 # {h=\"\",le=\"x\"} 0.001 0\nh_count 1\nh_sum 0.001\nh_created 0\n"
        + "# EOF\n", Check.written(x, 0, 0));
    Check.common(x, "m", "1");
    x.tick(1000);
    Check.add(x, 0, 1, "a", "");
    exemplar(x, 0, 0, "1 1 1000 3");
  }

  private static void exemplarUsesTheTapeUp() {
    Check.sentence("With an exemplar the tape, which is used up (else it stays), is its label set");
    MeterSheet x = Check.ofAllKinds();
    Check.tape(x, "abc");
    x.add(C, 1, false);
    x.add(G, 1, false);
    x.observe(H, 1, false);
    Check.due("without one it stays", 3, Check.tapeSize(x));
    Check.add(x, C, 1, "a", "1");
    Check.due("a counter uses it up", 0, Check.tapeSize(x));
    Check.add(x, C, 1, "b", "1");
    Check.due("a counter that keeps its own uses it up", 0, Check.tapeSize(x));
    Check.add(x, G, 1, "a", "1");
    Check.due("a gauge uses it up", 0, Check.tapeSize(x));
    Check.observe(x, H, 1, "a", "1");
    Check.due("a histogram uses it up", 0, Check.tapeSize(x));
    x.add(C, 1, true);
    Check.due("an empty one stays empty", 0, Check.tapeSize(x));
  }

  private static void gaugeKeepsNoExemplar() {
    Check.sentence("it is kept by a counter, with v and the time, if it has none, or one that is 1000 thousandths old or older.");
    MeterSheet x = Check.ofAllKinds();
    Check.add(x, G, 5, "t", "1");
    Check.due("the number changes", 0, x.childOf(0, G, 2));
    Check.due("two exemplars, as before", 2, x.look(0, 2));
    Check.dueThrow("none of a gauge", Check.NO_ELEMENT, () -> x.bucket(0, G, 0, 2));
  }

  private static void gaugeIsSet() {
    Check.sentence("A gauge becomes v.");
    MeterSheet x = Check.ofAllKinds();
    Check.tape(x, "abc");
    for (long v : new long[] {Check.MOST, -Check.MOST, 0, -1, 1}) {
      x.set(G, v);
      Check.due("set to " + v, v, x.childOf(0, G, 2));
    }
    Check.due("the tape stays", 3, Check.tapeSize(x));
    Check.sentence("IllegalArgumentException when v is no number.");
    for (long v : NO_NUMBERS) {
      Check.refused("set to " + v, Check.ARGUMENT, "abc", false, y -> y.set(G, v));
    }
  }

  private static void setOfNone() {
    Check.sentence("Throws NoSuchElementException when there is no such gauge");
    for (int child : new int[] {C, H, I, S}) {
      Check.refused("child " + child, Check.NO_ELEMENT, "abc", false, x -> x.set(child, 1));
    }
    for (int child : NO_CHILDREN) {
      Check.refused("child " + child, Check.NO_ELEMENT, "abc", false, x -> x.set(child, 1));
    }
    Check.sentence("Of several exceptions that hold the one listed first is thrown");
    Check.refused("no gauge, no number", Check.NO_ELEMENT, "abc", false, x -> x.set(C, Long.MAX_VALUE));
  }

  private static void observationsFall() {
    Check.sentence("HISTOGRAM: how many observations fell to each bound (the least that is not below them) and, last, beyond "
        + "all of them, 0 at first");
    MeterSheet x = new MeterSheet();
    Check.family(x, Check.HISTOGRAM, "h");
    long[] bounds = {-7, 0, 1000, 2500, 2501, Check.MOST};
    for (long bound : bounds) {
      x.bound(0, bound);
    }
    Check.child(x, 0);
    long[] values = {0, 1, 999, 1000, 1001, 2499, 2500, 2501, 2502, 5000};
    int[] fallTo = {1, 2, 2, 2, 3, 3, 3, 4, 5, 5};
    long[] counts = new long[7];
    long sum = 0;
    for (int k = 0; k < values.length; k++) {
      x.observe(0, values[k], false);
      counts[fallTo[k]]++;
      sum += values[k];
      for (int b = 0; b < 7; b++) {
        Check.due("bound " + b + " behind " + values[k], counts[b], x.bucket(0, 0, b, 1));
      }
      Check.due("how many behind " + values[k], k + 1, x.childOf(0, 0, 3));
      Check.due("their sum behind " + values[k], sum, x.childOf(0, 0, 2));
    }
  }

  private static void observationsWithoutBounds() {
    Check.sentence("HISTOGRAM: how many observations fell to each bound (the least that is not below them) and, last, beyond "
        + "all of them, 0 at first");
    MeterSheet x = new MeterSheet();
    Check.family(x, Check.HISTOGRAM, "h");
    Check.child(x, 0);
    x.observe(0, 0, false);
    x.observe(0, Check.MOST, false);
    Check.due("all are beyond", 2, x.bucket(0, 0, 0, 1));
    Check.dueThrow("there is no other", Check.NO_ELEMENT, () -> x.bucket(0, 0, 1, 1));
  }

  private static void observationsThatAreNone() {
    Check.sentence("Throws NoSuchElementException when there is no such histogram");
    for (int child : new int[] {C, G, I, S}) {
      Check.refused("child " + child, Check.NO_ELEMENT, "abc", false, x -> x.observe(child, 1, false));
      Check.refused("child " + child + " with an exemplar", Check.NO_ELEMENT, "a\1\2", true,
          x -> x.observe(child, 1, true));
    }
    for (int child : NO_CHILDREN) {
      Check.refused("child " + child, Check.NO_ELEMENT, "abc", false, x -> x.observe(child, 1, false));
    }
    Check.sentence("IllegalArgumentException when v is no number, below 0, or the tape is no set as said");
    for (long v : NO_NUMBERS) {
      Check.refused("observe " + v, Check.ARGUMENT, "abc", false, x -> x.observe(H, v, false));
      Check.refused("observe " + v + " with an exemplar", Check.ARGUMENT, "a\1\2", true, x -> x.observe(H, v, true));
    }
    for (long v : new long[] {-1, -1000, -Check.MOST}) {
      Check.refused("observe " + v, Check.ARGUMENT, "abc", false, x -> x.observe(H, v, false));
      Check.refused("observe " + v + " with an exemplar", Check.ARGUMENT, "a\1\2", true, x -> x.observe(H, v, true));
    }
  }

  private static void sumThatWouldBeNone() {
    Check.sentence("IllegalStateException when the sum would be no number.");
    MeterSheet x = Check.ofAllKinds();
    x.observe(H, Check.MOST - 1000, false);
    Check.due("the most", Check.MOST, x.childOf(0, H, 2));
    Check.dueThrow("one more", Check.STATE, () -> x.observe(H, 1, false));
    x.observe(H, 0, false);
    Check.due("three observations", 3, x.childOf(0, H, 3));
    Check.refused("one too many", Check.STATE, "abc", false, y -> y.observe(H, Check.MOST - 999, false));
    Check.refused("one too many with an exemplar", Check.STATE, "a\1\2", true, y -> y.observe(H, Check.MOST - 999, true));
  }

  private static void observeListedFirst() {
    Check.sentence("Of several exceptions that hold the one listed first is thrown");
    Check.refused("no histogram, below 0", Check.NO_ELEMENT, "abc", false, x -> x.observe(C, -1, false));
    Check.refused("no child, no number", Check.NO_ELEMENT, "abc", false, x -> x.observe(5, Long.MAX_VALUE, false));
    Check.refused("no histogram, no set", Check.NO_ELEMENT, "abc", true, x -> x.observe(S, 1, true));
    Check.refused("no set, no sum", Check.ARGUMENT, "abc", true, x -> x.observe(H, Check.MOST, true));
  }

  private static void exemplarsOfBounds() {
    Check.sentence("A histogram gets an observation; with an exemplar as add, kept for the bound to which it falls.");
    MeterSheet x = new MeterSheet();
    Check.family(x, Check.HISTOGRAM, "h");
    x.bound(0, 1000);
    x.bound(0, 2500);
    Check.child(x, 0);
    x.tick(5);
    Check.observe(x, 0, 2500, "bb", "1");
    exemplar(x, 0, 0, "0 0 0 0");
    exemplar(x, 0, 1, "1 2500 5 5");
    exemplar(x, 0, 2, "0 0 0 0");
    x.tick(1);
    Check.observe(x, 0, 1000, "a", "1");
    Check.observe(x, 0, 2501);
    exemplar(x, 0, 0, "1 1000 6 4");
    exemplar(x, 0, 2, "1 2501 6 0");
    Check.due("three exemplars", 3, x.look(0, 2));
    x.tick(999);
    Check.observe(x, 0, 0, "c", "");
    Check.observe(x, 0, 1001, "c", "");
    Check.observe(x, 0, 9000, "c", "");
    exemplar(x, 0, 0, "1 1000 6 4");
    exemplar(x, 0, 1, "1 1001 1005 3");
    exemplar(x, 0, 2, "1 2501 6 0");
    Check.due("six observations", 6, x.childOf(0, 0, 3));
  }

  private static void statesTurn() {
    Check.sentence("A state of a stateset is on, or not.");
    MeterSheet x = new MeterSheet();
    Check.family(x, Check.STATESET, "s");
    for (int k = 0; k < 4; k++) {
      Check.state(x, 0, "" + k);
    }
    Check.child(x, 0);
    Check.child(x, 0, "a", "");
    int on = 0;
    for (int k : new int[] {2, 0, 3, 1}) {
      x.turn(0, k, true);
      on |= 1 << k;
      Check.due("on " + k, on, x.childOf(0, 0, 5));
      x.turn(0, k, true);
      Check.due("on again " + k, on, x.childOf(0, 0, 5));
    }
    for (int k : new int[] {1, 3, 2, 0}) {
      x.turn(0, k, false);
      on &= ~(1 << k);
      Check.due("off " + k, on, x.childOf(0, 0, 5));
      x.turn(0, k, false);
      Check.due("off again " + k, on, x.childOf(0, 0, 5));
    }
    Check.due("the other child has its own", 0, x.childOf(0, 1, 5));
  }

  private static void turnOfNone() {
    Check.sentence("Throws NoSuchElementException when there is no such stateset or state.");
    for (int state : new int[] {2, 3, 4, 31, 32, 33, -1, -31, -32, Integer.MIN_VALUE, Integer.MAX_VALUE}) {
      Check.refused("state " + state + " on", Check.NO_ELEMENT, "abc", false, x -> x.turn(S, state, true));
      Check.refused("state " + state + " off", Check.NO_ELEMENT, "abc", false, x -> x.turn(S, state, false));
    }
    for (int child : new int[] {C, G, H, I}) {
      Check.refused("child " + child, Check.NO_ELEMENT, "abc", false, x -> x.turn(child, 0, true));
    }
    for (int child : NO_CHILDREN) {
      Check.refused("child " + child, Check.NO_ELEMENT, "abc", false, x -> x.turn(child, 0, true));
    }
    MeterSheet x = Check.ofAllKinds();
    Check.tape(x, "abc");
    x.turn(S, 0, true);
    x.turn(S, 1, false);
    Check.due("the two that are there", 1, x.childOf(0, S, 5));
    Check.due("the tape stays", 3, Check.tapeSize(x));
  }

  private static void timeGoesOn() {
    Check.sentence("Time goes on by ms: the time.");
    MeterSheet x = new MeterSheet();
    Check.tape(x, "abc");
    Check.due("by 0", 0, x.tick(0));
    Check.due("by 1", 1, x.tick(1));
    Check.due("by 6", 7, x.tick(6));
    Check.due("far", 2147483654L, x.tick(Integer.MAX_VALUE));
    Check.due("farther", 4294967301L, x.tick(Integer.MAX_VALUE));
    Check.due("the tape stays", 3, Check.tapeSize(x));
    Check.family(x, Check.COUNTER, "c");
    Check.child(x, 0);
    Check.due("the time of a creation", 4294967301L, x.childOf(0, 0, 4));
    MeterSheet y = new MeterSheet();
    long time = 0;
    for (int k = 1; k <= 490; k++) {
      time = y.tick(Integer.MAX_VALUE);
    }
    Check.due("as far as an object's calls go", 490L * Integer.MAX_VALUE, time);
    Check.family(y, Check.COUNTER, "c");
    Check.child(y, 0);
    Check.due("it is still a number", "# TYPE c counter\nc_total 0\nc_created 1052266987.03\n# EOF\n",
        Check.written(y, 0, 0));
  }

  private static void timeDoesNotGoBack() {
    Check.sentence("Throws IllegalArgumentException when ms is below 0.");
    for (int ms : new int[] {-1, -7, Integer.MIN_VALUE}) {
      Check.refused("tick " + ms, Check.ARGUMENT, "abc", false, x -> x.tick(ms));
    }
    Check.due("0 is not", 1507, Check.ofAllKinds().tick(0));
  }
}
