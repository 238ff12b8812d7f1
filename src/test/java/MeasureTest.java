/** Promises 13 to 17: add, set, observe, turn, tick. */
public final class MeasureTest {
  public static void main(String[] args) {
    counters();
    gauges();
    exemplarsOfCounters();
    exemplarSetsThatAreNone();
    histograms();
    histogramWithoutBounds();
    exemplarsOfHistograms();
    states();
    time();
    Check.end();
  }

  /** A counter 0, a gauge 1, a histogram 2 with bounds 1 and 2.5, an info 3, a stateset 4 with two states. */
  static MeterSheet ofAllKinds() {
    MeterSheet x = new MeterSheet();
    for (int kind = 0; kind < 5; kind++) {
      Check.family(x, kind, "k" + kind);
    }
    x.bound(2, 1000);
    x.bound(2, 2500);
    Check.state(x, 4, "on");
    Check.state(x, 4, "off");
    for (int kind = 0; kind < 5; kind++) {
      Check.child(x, kind);
    }
    return x;
  }

  private static void counters() {
    MeterSheet x = ofAllKinds();
    x.add(0, 0, false);
    x.add(0, 1, false);
    x.add(0, Check.MOST - 1, false);
    Check.due("a total", Check.MOST, x.childOf(0, 0, 2));
    Check.dueThrow("no number any more", Check.STATE, () -> x.add(0, 1, false));
    Check.dueThrow("below 0", Check.ARGUMENT, () -> x.add(0, -1, false));
    Check.dueThrow("no number", Check.ARGUMENT, () -> x.add(0, Check.MOST + 1, false));
    Check.dueThrow("far from a number", Check.ARGUMENT, () -> x.add(0, Long.MAX_VALUE, false));
    Check.due("it stays", Check.MOST, x.childOf(0, 0, 2));
    for (int child : new int[] {2, 3, 4, 5, -1, 24, Integer.MAX_VALUE}) {
      Check.dueThrow("no counter or gauge " + child, Check.NO_ELEMENT, () -> x.add(child, Long.MIN_VALUE, false));
    }
  }

  private static void gauges() {
    MeterSheet x = ofAllKinds();
    x.add(1, -Check.MOST, false);
    Check.due("a gauge falls", -Check.MOST, x.childOf(0, 1, 2));
    Check.dueThrow("too far down", Check.STATE, () -> x.add(1, -1, false));
    x.add(1, Check.MOST, false);
    x.add(1, 7, false);
    Check.due("a gauge rises", 7, x.childOf(0, 1, 2));
    Check.dueThrow("too far up", Check.STATE, () -> x.add(1, Check.MOST, false));
    Check.dueThrow("no number", Check.ARGUMENT, () -> x.add(1, -Check.MOST - 1, false));
    Check.dueThrow("no number at all", Check.ARGUMENT, () -> x.add(1, Long.MIN_VALUE, false));
    x.set(1, Check.MOST);
    Check.due("set to the most", Check.MOST, x.childOf(0, 1, 2));
    x.set(1, -Check.MOST);
    Check.due("set to the least", -Check.MOST, x.childOf(0, 1, 2));
    Check.dueThrow("set to no number", Check.ARGUMENT, () -> x.set(1, Check.MOST + 1));
    Check.dueThrow("set to no number below", Check.ARGUMENT, () -> x.set(1, Long.MIN_VALUE));
    Check.due("it stays", -Check.MOST, x.childOf(0, 1, 2));
    for (int child : new int[] {0, 2, 3, 4, 5, -1, 24}) {
      Check.dueThrow("no gauge " + child, Check.NO_ELEMENT, () -> x.set(child, Long.MAX_VALUE));
    }
    Check.add(x, 1, 5, "t", "1");
    Check.due("a gauge uses the tape up", 0, Check.tapeSize(x));
    Check.due("a gauge keeps no exemplar", 0, x.look(0, 2));
  }

  private static void exemplarsOfCounters() {
    MeterSheet x = ofAllKinds();
    Check.tape(x, "abc");
    x.add(0, 1, false);
    Check.due("without an exemplar the tape stays", 3, Check.tapeSize(x));
    x.tick(10);
    Check.add(x, 0, 2, "t", "1");
    Check.due("with one it is used up", 0, Check.tapeSize(x));
    exemplar(x, 0, 0, 2, 10, 4);
    x.tick(999);
    Check.add(x, 0, 3, "t", "22");
    exemplar(x, 0, 0, 2, 10, 4);
    x.tick(1);
    Check.add(x, 0, 0);
    exemplar(x, 0, 0, 0, 1010, 0);
    Check.due("the total grows all the same", 6, x.childOf(0, 0, 2));
    Check.dueThrow("no such counter", Check.NO_ELEMENT, () -> Check.add(x, 3, 1, "t", "1"));
    Check.due("used up by a throw", 0, Check.tapeSize(x));
    x.tick(1000);
    Check.dueThrow("below 0", Check.ARGUMENT, () -> Check.add(x, 0, -1, "t", "1"));
    Check.due("used up by another throw", 0, Check.tapeSize(x));
    x.add(0, Check.MOST - 6, false);
    Check.dueThrow("the sum is no number", Check.STATE, () -> Check.add(x, 0, 1, "t", "1"));
    Check.due("used up by a third throw", 0, Check.tapeSize(x));
    exemplar(x, 0, 0, 0, 1010, 0);
    Check.add(x, 0, 0, "zz", "", "a", "123456789012");
    exemplar(x, 0, 0, 0, 2010, 19);
  }

  private static void exemplar(MeterSheet x, int child, int b, long number, long time, long bytes) {
    Check.due("it has an exemplar", 1, x.bucket(0, child, b, 2));
    Check.due("its number", number, x.bucket(0, child, b, 3));
    Check.due("its time", time, x.bucket(0, child, b, 4));
    Check.due("its bytes", bytes, x.bucket(0, child, b, 5));
  }

  private static void exemplarSetsThatAreNone() {
    MeterSheet x = ofAllKinds();
    String[] wrong = {"a\1\2b\1\2c\1\2", "a", "a\1\2a\1\2", "abcdefghi\1\2", "a\0011234567890123\2", "__a\1\2", "\1\2"};
    for (String tape : wrong) {
      for (int child = 0; child < 3; child++) {
        int c = child;
        Check.dueThrow("tape <" + tape + "> for " + c, Check.ARGUMENT, () -> {
          Check.tape(x, tape);
          if (c == 2) {
            x.observe(c, 5, true);
          } else {
            x.add(c, 5, true);
          }
        });
        Check.due("used up", 0, Check.tapeSize(x));
        Check.due("nothing changes", 0, x.childOf(0, c, 2));
      }
    }
    Check.due("no exemplar", 0, x.look(0, 2));
    Check.add(x, 0, 1, "abcdefgh", "123456789012", "abcdefgi", "123456789012");
    exemplar(x, 0, 0, 1, 0, 44);
    Check.observe(x, 2, 1, "le", "x");
    exemplar(x, 2, 0, 1, 0, 5);
  }

  private static void histograms() {
    MeterSheet x = ofAllKinds();
    for (long v : new long[] {0, 1000, 1001, 2500, 2501, 5000, 1000}) {
      x.observe(2, v, false);
    }
    Check.due("up to 1", 3, x.bucket(0, 2, 0, 1));
    Check.due("up to 2.5", 2, x.bucket(0, 2, 1, 1));
    Check.due("beyond", 2, x.bucket(0, 2, 2, 1));
    Check.due("how many", 7, x.childOf(0, 2, 3));
    Check.due("their sum", 13002, x.childOf(0, 2, 2));
    Check.dueThrow("below 0", Check.ARGUMENT, () -> x.observe(2, -1, false));
    Check.dueThrow("no number", Check.ARGUMENT, () -> x.observe(2, Check.MOST + 1, false));
    Check.dueThrow("the sum is no number", Check.STATE, () -> x.observe(2, Check.MOST - 13001, false));
    Check.due("nothing changes", 7, x.childOf(0, 2, 3));
    x.observe(2, Check.MOST - 13002, false);
    Check.due("the most", Check.MOST, x.childOf(0, 2, 2));
    for (int child : new int[] {0, 1, 3, 4, 5, -1, 24}) {
      Check.dueThrow("no histogram " + child, Check.NO_ELEMENT, () -> x.observe(child, -1, false));
    }
  }

  private static void histogramWithoutBounds() {
    MeterSheet x = new MeterSheet();
    int h = Check.family(x, Check.HISTOGRAM, "h");
    Check.child(x, h);
    x.observe(0, 3, false);
    Check.due("all are beyond", 1, x.bucket(0, 0, 0, 1));
    Check.dueThrow("no more bounds", Check.NO_ELEMENT, () -> x.bucket(0, 0, 1, 1));
  }

  private static void exemplarsOfHistograms() {
    MeterSheet x = ofAllKinds();
    x.tick(5);
    Check.observe(x, 2, 1000, "a", "1");
    Check.observe(x, 2, 2000);
    Check.observe(x, 2, 9000, "c", "1");
    exemplar(x, 2, 0, 1000, 5, 4);
    exemplar(x, 2, 1, 2000, 5, 0);
    exemplar(x, 2, 2, 9000, 5, 4);
    x.tick(999);
    Check.observe(x, 2, 1, "b", "");
    exemplar(x, 2, 0, 1000, 5, 4);
    x.tick(1);
    Check.observe(x, 2, 1, "b", "");
    exemplar(x, 2, 0, 1, 1005, 3);
    exemplar(x, 2, 1, 2000, 5, 0);
    Check.due("three exemplars", 3, x.look(0, 2));
    Check.tape(x, "abc");
    x.observe(2, 1, false);
    Check.due("without an exemplar the tape stays", 3, Check.tapeSize(x));
    Check.dueThrow("no histogram", Check.NO_ELEMENT, () -> Check.observe(x, 1, 1, "a", "1"));
    Check.due("used up by a throw", 0, Check.tapeSize(x));
  }

  private static void states() {
    MeterSheet x = ofAllKinds();
    x.turn(4, 1, true);
    Check.due("off is on", 2, x.childOf(0, 4, 5));
    x.turn(4, 0, true);
    x.turn(4, 0, true);
    Check.due("both are on", 3, x.childOf(0, 4, 5));
    x.turn(4, 1, false);
    x.turn(4, 1, false);
    Check.due("on is on", 1, x.childOf(0, 4, 5));
    for (int state : new int[] {-1, 2, 4, 32, Integer.MIN_VALUE}) {
      Check.dueThrow("no state " + state, Check.NO_ELEMENT, () -> x.turn(4, state, true));
    }
    for (int child : new int[] {0, 1, 2, 3, 5, -1, 24}) {
      Check.dueThrow("no stateset " + child, Check.NO_ELEMENT, () -> x.turn(child, 0, true));
    }
    Check.due("it stays", 1, x.childOf(0, 4, 5));
  }

  private static void time() {
    MeterSheet x = new MeterSheet();
    Check.due("tick 0", 0, x.tick(0));
    Check.due("tick 7", 7, x.tick(7));
    Check.dueThrow("tick back", Check.ARGUMENT, () -> x.tick(-1));
    Check.dueThrow("tick far back", Check.ARGUMENT, () -> x.tick(Integer.MIN_VALUE));
    Check.due("tick far", 2147483654L, x.tick(Integer.MAX_VALUE));
    Check.due("tick farther", 4294967301L, x.tick(Integer.MAX_VALUE));
    Check.family(x, Check.COUNTER, "c");
    Check.child(x, 0);
    Check.due("the time of a creation", 4294967301L, x.childOf(0, 0, 4));
  }
}
