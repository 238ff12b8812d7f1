import java.nio.charset.StandardCharsets;
import java.util.NoSuchElementException;

/** What the tests share: the count of wrong answers, and ways to put texts on a tape and take them off a sheet. */
final class Check {
  static final Class<?> ARGUMENT = IllegalArgumentException.class;
  static final Class<?> STATE = IllegalStateException.class;
  static final Class<?> UNSUPPORTED = UnsupportedOperationException.class;
  static final Class<?> NO_ELEMENT = NoSuchElementException.class;
  static final long MOST = 999999999999999L;
  static final int COUNTER = 0;
  static final int GAUGE = 1;
  static final int HISTOGRAM = 2;
  static final int INFO = 3;
  static final int STATESET = 4;

  private static int asked = 0;
  private static int wrong = 0;
  private static String words = "";

  interface Call {
    void run();
  }

  interface CallOn {
    void run(MeterSheet x);
  }

  /** The document's words that the answers from here on are about: they are told with each wrong one. */
  static void sentence(String ofTheDocument) {
    words = ofTheDocument;
  }

  static void due(String what, Object want, Object got) {
    asked++;
    if (!want.equals(got)) {
      wrong++;
      System.out.println("\"" + words + "\" " + what + ": due is <" + want + ">, answered was <" + got + ">");
    }
  }

  static void due(String what, long want, long got) {
    due(what, Long.valueOf(want), Long.valueOf(got));
  }

  static void dueThrow(String what, Class<?> want, Call call) {
    Object got = "nothing thrown";
    try {
      call.run();
    } catch (RuntimeException e) {
      got = e.getClass();
    }
    due(what, want, got);
  }

  /**
   * A call on the sheet of all kinds, with a text on the tape, that must throw: but for the tape, which is used up or
   * stays, all must be as on another such sheet on which it was not called.
   */
  static void refused(String what, Class<?> want, String tape, boolean usedUp, CallOn call) {
    MeterSheet control = ofAllKinds();
    tape(control, usedUp ? "" : tape);
    MeterSheet tried = ofAllKinds();
    tape(tried, tape);
    dueThrow(what, want, () -> call.run(tried));
    due(what + " changes nothing", all(control), all(tried));
  }

  /**
   * A sheet with a counter c_s, a gauge g, a histogram h, an info i, a stateset s, each with a child of the same number,
   * a histogram e and a stateset t without anything, exemplars that are old, a common label m, and one gauge that was
   * read and written.
   */
  static MeterSheet ofAllKinds() {
    MeterSheet x = new MeterSheet();
    family(x, COUNTER, "c_s", "s", "help");
    family(x, GAUGE, "g");
    family(x, HISTOGRAM, "h");
    family(x, INFO, "i");
    family(x, STATESET, "s");
    family(x, HISTOGRAM, "e");
    family(x, STATESET, "t");
    x.bound(2, 1000);
    x.bound(2, 2500);
    state(x, 4, "on");
    state(x, 4, "off");
    for (int k = 0; k < 5; k++) {
      child(x, k);
    }
    x.tick(7);
    add(x, 0, 2500, "t", "1");
    x.set(1, -5);
    observe(x, 2, 1000, "t", "");
    x.turn(4, 1, true);
    x.tick(1500);
    common(x, "m", "1");
    x.cap(3, 1);
    read(x, "# TYPE r gauge\nr 1\n# EOF\n");
    x.write(1, 1);
    return x;
  }

  /** All that can be seen of a sheet: last, by a child that is made and by reading, the common label and the tape. */
  static String all(MeterSheet x) {
    StringBuilder out = new StringBuilder(latest(x));
    out.append("tape ").append(tapeSize(x)).append(" place ").append(x.place()).append(" time ").append(x.tick(0));
    for (int which = 0; which < 2; which++) {
      out.append(" sheet ").append(x.look(which, 0)).append(' ').append(x.look(which, 1)).append(' ')
          .append(x.look(which, 2));
    }
    for (int k = 0; k < x.look(0, 0); k++) {
      out.append(" family ").append(x.familyOf(0, k, 5)).append(' ').append(x.familyOf(0, k, 6));
    }
    out.append('\n').append(written(x, 1, 0)).append(x.read()).append(" at ").append(x.place()).append('\n');
    out.append(child(x, 1, "probe", "")).append('\n').append(written(x, 0, 0));
    return out.toString();
  }

  /** Tells what was asked, and ends with 1 if an answer was wrong. */
  static void end() {
    System.out.println(asked + " answers looked at, " + wrong + " wrong");
    if (wrong != 0) {
      System.exit(1);
    }
  }

  /** Makes the tape a text of bytes 0 to 255. */
  static void tape(MeterSheet x, String text) {
    x.cut(0);
    byte[] bytes = text.getBytes(StandardCharsets.ISO_8859_1);
    for (int k = 0; k < bytes.length; k += 8) {
      int n = Math.min(8, bytes.length - k);
      long v = 0;
      for (int i = 0; i < n; i++) {
        v |= (bytes[k + i] & 255L) << (8 * i);
      }
      x.feed(n, v);
    }
  }

  /** How many bytes the tape has: feed tells it, and cut takes the byte back. */
  static int tapeSize(MeterSheet x) {
    int size = x.feed(1, 0) - 1;
    x.cut(size);
    return size;
  }

  /** A label set as on the tape: names and values by turns. */
  static String set(String... words) {
    StringBuilder out = new StringBuilder();
    for (int k = 0; k < words.length; k++) {
      out.append(words[k]).append(k % 2 == 0 ? '\1' : '\2');
    }
    return out.toString();
  }

  static int family(MeterSheet x, int kind, String name, String unit, String help) {
    tape(x, name + "\1" + unit + "\1" + help);
    return x.family(kind);
  }

  static int family(MeterSheet x, int kind, String name) {
    return family(x, kind, name, "", "");
  }

  static int state(MeterSheet x, int family, String text) {
    tape(x, text);
    return x.state(family);
  }

  static void common(MeterSheet x, String... words) {
    tape(x, set(words));
    x.common();
  }

  static int child(MeterSheet x, int family, String... words) {
    tape(x, set(words));
    return x.child(family);
  }

  static void add(MeterSheet x, int child, long v, String... exemplar) {
    tape(x, set(exemplar));
    x.add(child, v, true);
  }

  static void observe(MeterSheet x, int child, long v, String... exemplar) {
    tape(x, set(exemplar));
    x.observe(child, v, true);
  }

  /** Puts children of a histogram with as long names, labels and bounds as may be on a sheet. */
  static void manyHistograms(MeterSheet x, int children) {
    int h = family(x, HISTOGRAM, "abcdefghijklmnopqrstuvwx");
    for (int b = x.familyOf(0, h, 5); b < 6 && x.familyOf(0, h, 1) == 0; b++) {
      x.bound(h, b - MOST);
    }
    for (int k = x.familyOf(0, h, 1); k < children; k++) {
      child(x, h, "abcdefg" + (char) ('a' + k), "\\".repeat(12), "b", "\"".repeat(12), "c", "\n");
    }
  }

  /** Fills a new sheet so that its text has just so many bytes in a form, 2000 at least. */
  static void fillTo(MeterSheet x, int size, int form) {
    manyHistograms(x, 1);
    int g = family(x, GAUGE, "g");
    for (int n = 2; size - x.write(0, form) > 1500; n++) {
      manyHistograms(x, n);
    }
    for (char c = 'a'; size - x.write(0, form) > 200; c++) {
      child(x, g, "a", "\\".repeat(12), "b", "\\".repeat(11) + c, "c", "\\".repeat(12));
    }
    int left = size - x.write(0, form) - 2 * "# TYPE k gauge\n# HELP k \n".length();
    family(x, GAUGE, "k", "", helpWritten(left / 2));
    family(x, GAUGE, "m", "", helpWritten(left - left / 2));
  }

  private static String helpWritten(int bytes) {
    return "\\".repeat(bytes / 2) + "a".repeat(bytes % 2);
  }

  /** What was written latest: it goes up to the first place at which text has none. */
  static String latest(MeterSheet x) {
    StringBuilder out = new StringBuilder();
    try {
      for (int k = 0; k < 12000; k++) {
        out.append((char) (x.text(k) & 255));
      }
    } catch (NoSuchElementException e) {
      return out.toString();
    }
    return out.toString();
  }

  static String written(MeterSheet x, int which, int form) {
    return latest(x, x.write(which, form));
  }

  static String latest(MeterSheet x, int size) {
    StringBuilder out = new StringBuilder();
    for (int k = 0; k < size; k += 8) {
      long eight = x.text(k);
      for (int i = 0; i < 8 && k + i < size; i++) {
        out.append((char) (eight >>> (8 * i) & 255));
      }
    }
    return out.toString();
  }

  /** The fault that reading a text finds, with its place: "0 at -1" without one. */
  static String read(MeterSheet x, String text) {
    tape(x, text);
    return x.read() + " at " + x.place();
  }

  private Check() {}
}
