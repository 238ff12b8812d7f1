/** What the tests of reading share: the faults, lines to begin with, and what a text must be read as. */
final class Reading {
  static final int SYNTAX = 1;
  static final int NAME = 2;
  static final int KIND = 3;
  static final int CLASH = 4;
  static final int ORDER = 5;
  static final int UNIT = 6;
  static final int LONG = 7;
  static final int LABEL = 8;
  static final int TWICE = 9;
  static final int CHILD = 10;
  static final int VALUE = 11;
  static final int BUCKETS = 12;
  static final int EXEMPLAR = 13;
  static final int FULL = 14;

  static final String A = "# TYPE a counter\n";
  static final String G = "# TYPE g gauge\n";
  static final String H = "# TYPE h histogram\n";
  static final String I = "# TYPE i info\n";
  static final String S = "# TYPE s stateset\n";
  static final String INF = "h_bucket{le=\"+Inf\"} ";
  static final String EOF = "# EOF\n";

  static final String LOWER = "abcdefghijklmnopqrstuvwxyz";
  static final String UPPER = "ABCDEFGHIJKLMNOPQRSTUVWXYZ";
  static final String DIGITS = "0123456789";
  static final String NAMES = LOWER + UPPER + DIGITS + "_:";

  /** A text that must be read without a fault. */
  static void good(String text) {
    MeterSheet x = new MeterSheet();
    Check.due("<" + text + ">", "0 at -1", Check.read(x, text));
    int families = text.split("# TYPE ", -1).length - 1;
    Check.due("<" + text + "> has its families", families, x.look(1, 0));
  }

  /** A text with a fault: ~ stands before the byte at which it is told. */
  static void fault(int fault, String marked) {
    int place = marked.indexOf('~');
    faultAt(fault, place, marked.substring(0, place) + marked.substring(place + 1));
  }

  static void faultAt(int fault, int place, String text) {
    MeterSheet x = new MeterSheet();
    Check.due("<" + text + ">", fault + " at " + place, Check.read(x, text));
    Check.due("<" + text + "> leaves nothing", 0, x.look(1, 0) + x.look(1, 1) + x.look(1, 2));
  }

  /**
   * Puts each byte between two texts: one that may stand there is no fault at that place; one that makes a run before it
   * longer is looked at elsewhere; each other one is a fault there, of SYNTAX.
   */
  static void only(String before, String mayStand, String longerRun, String after) {
    for (int b = 0; b < 256; b++) {
      MeterSheet x = new MeterSheet();
      String got = Check.read(x, before + (char) b + after);
      String there = SYNTAX + " at " + before.length();
      if (mayStand.indexOf(b) >= 0) {
        Check.due("byte " + b + " may stand behind <" + before + ">", false, got.equals(there));
      } else if (longerRun.indexOf(b) < 0) {
        Check.due("byte " + b + " behind <" + before + ">", there, got);
      }
    }
  }

  private Reading() {}
}
