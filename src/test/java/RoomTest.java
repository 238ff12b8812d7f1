import java.lang.management.ManagementFactory;

/** All memory is made once: no call that answers makes an object, and an object is used for 512 calls. */
public final class RoomTest {
  private static final long[] COUNTER = words("c_s\1s\1help");
  private static final long[] HISTOGRAM = words("h\1\1");
  private static final long[] STATESET = words("s\1\1");
  private static final long[] STATE = words("on");
  private static final long[] LABELS = words("b\0011\2a\0012\2");
  private static final long[] COMMON = words("m\1all\2");
  private static final long[] WRONG = words("# TYPE c counter\nc_total -1\n");

  public static void main(String[] args) {
    callsMakeNoObjects();
    allCallsAreAnswered();
    Check.end();
  }

  /** A text as longs for feed, the last of which has how many bytes the text has. */
  private static long[] words(String text) {
    long[] out = new long[(text.length() + 7) / 8 + 1];
    for (int k = 0; k < text.length(); k++) {
      out[k / 8] |= (long) text.charAt(k) << (8 * (k % 8));
    }
    out[out.length - 1] = text.length();
    return out;
  }

  private static void tape(MeterSheet x, long[] words) {
    x.cut(0);
    int size = (int) words[words.length - 1];
    for (int k = 0; k < size; k += 8) {
      x.feed(Math.min(8, size - k), words[k / 8]);
    }
  }

  /** Every call of the face, most of them more than once. */
  private static long work(MeterSheet x) {
    tape(x, COUNTER);
    x.family(0);
    tape(x, HISTOGRAM);
    x.family(2);
    tape(x, STATESET);
    x.family(4);
    x.bound(1, 1000);
    tape(x, STATE);
    x.state(2);
    tape(x, COMMON);
    x.common();
    for (int family = 0; family < 3; family++) {
      tape(x, LABELS);
      x.child(family);
      x.cap(family, 8);
    }
    long sum = 0;
    for (int k = 0; k < 20; k++) {
      sum += x.tick(600);
      tape(x, LABELS);
      x.add(0, k, true);
      tape(x, LABELS);
      x.observe(1, 100 * k, true);
      x.turn(2, 0, k % 2 == 0);
      sum += x.write(0, k % 2) + x.text(k) + x.copy() + x.read() + x.place() + x.look(1, 2);
      sum += x.same() ? 1 : 0;
    }
    tape(x, WRONG);
    x.poke(0, '#');
    sum += x.read() + x.familyOf(0, 1, 5) + x.childOf(0, 1, 3) + x.bucket(0, 1, 0, 4);
    x.remove(0);
    return sum;
  }

  private static void callsMakeNoObjects() {
    Check.sentence("All memory is the class's own, made once.");
    if (!(ManagementFactory.getThreadMXBean() instanceof com.sun.management.ThreadMXBean bean)
        || !bean.isThreadAllocatedMemorySupported()) {
      return;
    }
    long thread = Thread.currentThread().getId();
    long least = Long.MAX_VALUE;
    // The first runs load classes and texts; what is left in the best one is the calls' own.
    for (int k = 0; k < 5; k++) {
      MeterSheet x = new MeterSheet();
      long before = bean.getThreadAllocatedBytes(thread);
      work(x);
      least = Math.min(least, bean.getThreadAllocatedBytes(thread) - before);
    }
    Check.due("bytes that calls have made", 0, least);
  }

  private static void allCallsAreAnswered() {
    Check.sentence("An object is used for at most 512 calls after it has been made; what later calls answer is free.");
    MeterSheet x = new MeterSheet();
    tape(x, HISTOGRAM);
    x.family(2);
    x.child(0);
    int calls = 4;
    for (int k = 0; calls < 510; k++) {
      x.observe(0, k % 3, false);
      calls++;
    }
    Check.due("call 511", 506, x.bucket(0, 0, 0, 1));
    Check.due("call 512", 506, x.childOf(0, 0, 3));
  }
}
