/** Promises 20 and 21, of reading: the place of a fault, bytes and numbers, and the lines that begin with #. */
public final class ReadLineTest {
  private static final String B = "# TYPE b_s counter\n";
  private static final String FORTY = "0123456789012345678901234567890123456789";
  private static final String ESCAPES = "n\"\\";

  public static void main(String[] args) {
    placeOfTheLatest();
    theTapeStays();
    readingAgain();
    missingBytes();
    bytesOfHeads();
    escapedBytes();
    numbers();
    numbersThatAreTooLong();
    numberBytes();
    lineBeginnings();
    otherRuns();
    ends();
    endsBehindAChildThatIsNotWhole();
    typesBehindAChildThatIsNotWhole();
    familyNames();
    eightFamilies();
    kinds();
    clashes();
    unitsInOrder();
    unitNames();
    units();
    helpsInOrder();
    helpNames();
    helpsOfOneAtLeast();
    helpsThatAreTooLong();
    headsThatAreFoundFirst();
    fullTapes();
    Check.end();
  }

  private static void good(String text) {
    Reading.good(text);
  }

  private static void fault(int fault, String marked) {
    Reading.fault(fault, marked);
  }

  private static void placeOfTheLatest() {
    Check.sentence("The place of the fault that reading found latest; -1 without one.");
    MeterSheet x = new MeterSheet();
    Check.due("before reading", -1, x.place());
    Check.due("a fault", "5 at 0", Check.read(x, "a_total 1\n"));
    Check.due("another fault", "1 at 27", Check.read(x, Reading.A + "a_total 1\n"));
    Check.due("its place again", 27, x.place());
    Check.tape(x, "");
    Check.due("its place without the tape", 27, x.place());
    Check.due("a good text", "0 at -1", Check.read(x, Reading.A + "a_total 1\n" + Reading.EOF));
    Check.due("a fault behind a good text", "2 at 17", Check.read(x, Reading.A + "a 1\n" + Reading.EOF));
    Check.sentence("The SHEET that was read is there then; behind a fault it is empty.");
    Check.read(x, Reading.A + "a_total 1 # {} 1 1\n" + Reading.EOF);
    Check.due("it is there", "1 1 1", x.look(1, 0) + " " + x.look(1, 1) + " " + x.look(1, 2));
    Check.read(x, Reading.A + "a_total 1 # {} 1 1\n");
    Check.due("it is empty", "0 0 0", x.look(1, 0) + " " + x.look(1, 1) + " " + x.look(1, 2));
    Check.due("and written so", "# EOF\n", Check.written(x, 1, 0));
  }

  private static void theTapeStays() {
    Check.sentence("Reads the tape, which stays: 0, or the fault.");
    MeterSheet x = new MeterSheet();
    Check.read(x, Reading.A + "a_total 1\n" + Reading.EOF);
    Check.due("behind a good one", 33, Check.tapeSize(x));
    Check.due("it can be read again", 0, x.read());
    Check.due("with what it has", 1, x.look(1, 1));
    Check.read(x, "a_total 1\n");
    Check.due("behind a fault", 10, Check.tapeSize(x));
    Check.due("the fault again", 5, x.read());
    MeterSheet y = Check.ofAllKinds();
    String kept = Check.written(y, 0, 0);
    Check.read(y, Reading.A + "a_total 1\n" + Reading.EOF);
    Check.due("what is kept does not change", kept, Check.written(y, 0, 0));
    Check.read(y, "#");
    Check.due("nor does it behind a fault", kept, Check.written(y, 0, 0));
  }

  /** What an earlier text has left behind must not show in the next one. */
  private static void readingAgain() {
    Check.sentence("READING takes a text of form 0 from the first byte on");
    MeterSheet x = new MeterSheet();
    String tail = "h_count 1\nh_sum 1\n";
    Check.due("a text that ends behind TYPE", "1 at 17", Check.read(x, Reading.A));
    Check.due("no UNIT behind nothing", "5 at 0", Check.read(x, "# UNIT a a\n"));
    Check.due("a text that ends behind UNIT", "1 at 32", Check.read(x, B + "# UNIT b_s s\n"));
    Check.due("no HELP behind nothing", "5 at 0", Check.read(x, "# HELP b_s a\n"));
    Check.due("no sample behind nothing", "5 at 0", Check.read(x, "b_s_total 1\n"));
    Check.due("a fault in the line behind TYPE", "1 at 19", Check.read(x, Reading.A + "# X\n"));
    Check.due("no UNIT behind nothing, again", "5 at 0", Check.read(x, "# UNIT a a\n"));
    Check.due("a fault in the line behind UNIT", "1 at 34", Check.read(x, B + "# UNIT b_s s\n# X\n"));
    Check.due("no HELP behind nothing, again", "5 at 0", Check.read(x, "# HELP b_s a\n"));
    Check.due("a fault in a sample's number", "1 at 25", Check.read(x, Reading.A + "a_total !"));
    Check.due("no sample behind nothing, again", "5 at 0", Check.read(x, "a_created 1\n"));
    Check.due("a child that is not whole", "1 at 41", Check.read(x, Reading.H + Reading.INF + "1\n"));
    Check.due("an end behind nothing", "0 at -1", Check.read(x, Reading.EOF));
    for (int k = 0; k < 2; k++) {
      Check.due("states", "0 at -1", Check.read(x, Reading.S + "s{s=\"a\"} 1\ns{s=\"b\"} 1\n" + Reading.EOF));
      Check.due("two of them", 2, x.familyOf(1, 0, 6));
      Check.due("bounds", "0 at -1", Check.read(x, Reading.H + "h_bucket{le=\"1\"} 1 # {a=\"\"} 1 1\n" + Reading.INF + "1\n"
          + tail + "h_created 1\n" + Reading.EOF));
      Check.due("one of them", 1, x.familyOf(1, 0, 5));
      Check.due("no states", 0, x.familyOf(1, 0, 6));
      Check.due("no bounds", "0 at -1", Check.read(x, Reading.H + Reading.INF + "1\n" + tail + Reading.EOF));
      Check.due("none of them", "0 -1 0", x.familyOf(1, 0, 5) + " " + x.childOf(1, 0, 4) + " " + x.look(1, 2));
      Check.due("an info", "0 at -1", Check.read(x, Reading.I + "i_info 1\n" + Reading.EOF));
      Check.due("without anything", 0, x.childOf(1, 0, 2) + x.childOf(1, 0, 3) + x.childOf(1, 0, 5) + x.look(1, 2));
      Check.due("a unit and a help", "0 at -1", Check.read(x, B + "# UNIT b_s s\n# HELP b_s h\n" + Reading.EOF));
      Check.due("neither", "0 at -1", Check.read(x, Reading.A + Reading.EOF));
      Check.due("none of them is left", 0, x.familyOf(1, 0, 3) + x.familyOf(1, 0, 4));
    }
  }

  /**
   * A text with all there is, in tokens. The first byte of each tells the fault of a beginning of it: a digit is the one
   * that is told where the token begins, - a byte that is just missing, N and U a name and a unit; C, T and L tell that
   * the sample's name before, without the labels of this token, is CHILD, TWICE or LABEL.
   */
  private static final String[] TOKENS = {"-# ", "1TYPE", "- ", "Nb_s", "- ", "3counter", "-\n", "-# ", "1UNIT", "- ", "2b_s",
      "- ", "Us", "-\n", "-# ", "1HELP", "- ", "2b_s", "- it\\n\\\"\\\\\n", "2b_s_total",
      "-{a=\"\\n\",b=\"\"} 2.5 # {a=\"\\\\\"} 1.5 0.25\n", "2b_s_created", "C{a=\"\\n\",b=\"\"} 0.001\n", "-# ", "1TYPE", "- ",
      "Ng", "- ", "3gauge", "-\n", "2g", "- -1.25\n", "2g", "T{k=\"v\"} 0\n", "-# ", "1TYPE", "- ", "Nh", "- ", "3histogram",
      "-\n", "2h_bucket", "L{le=\"-0.5\"} 1 # {} -1.5 1\n", "2h_bucket", "L{le=\"+Inf\"} 3 # {c=\"\"} 7 1\n", "2h_count",
      "- 3\n", "2h_sum", "- -4.5\n", "2h_created", "- 1\n", "-# ", "1TYPE", "- ", "Ni", "- ", "3info", "-\n", "2i_info",
      "-{v=\"1\"} 1\n", "-# ", "1TYPE", "- ", "Ns", "- ", "3stateset", "-\n", "2s", "L{z=\"\",s=\"on\"} 1\n", "2s",
      "L{z=\"\",s=\"off\"} 0\n", "2s", "L{s=\"on\"} 0\n", "2s", "L{s=\"off\"} 1\n", "-# ", "1EOF", "-\n"};

  private static void missingBytes() {
    Check.sentence("(0 for the first byte; how many bytes there are, if one is missing)");
    StringBuilder text = new StringBuilder();
    int before = 0;
    for (String told : TOKENS) {
      String token = told.substring(1);
      int start = text.length();
      for (int k = 0; k < token.length(); k++) {
        int fault = faultOfBeginning(told.charAt(0), k, text);
        boolean atToken = fault != Reading.SYNTAX || told.charAt(0) == '1';
        boolean atName = k == 0 && "CTL".indexOf(told.charAt(0)) >= 0;
        Reading.faultAt(fault, atName ? before : atToken ? start : start + k, text + token.substring(0, k));
      }
      before = start;
      text.append(token);
    }
    good(text.toString());
  }

  private static int faultOfBeginning(char told, int k, StringBuilder before) {
    boolean atLine = before.length() == 0 || before.charAt(before.length() - 1) == '\n';
    switch (told) {
      case 'N': return k == 0 ? Reading.NAME : Reading.SYNTAX;
      case 'U': return k == 0 ? Reading.SYNTAX : Reading.UNIT;
      case 'C': return k == 0 ? Reading.CHILD : Reading.SYNTAX;
      case 'T': return k == 0 ? Reading.TWICE : Reading.SYNTAX;
      case 'L': return k == 0 ? Reading.LABEL : Reading.SYNTAX;
      case '3': return Reading.KIND;
      case '2': return k == 0 && atLine ? Reading.SYNTAX : Reading.NAME;
      default: return Reading.SYNTAX;
    }
  }

  private static void bytesOfHeads() {
    Check.sentence("1 SYNTAX: a byte that is not one that may stand there (place: that byte).");
    Reading.only("", "#" + Reading.NAMES, "", "");
    Reading.only(Reading.A, "#" + Reading.NAMES, "", "");
    Reading.only(Reading.A + "a_total 1\n", "#" + Reading.NAMES, "", "");
    Reading.only("#", " ", "", "EOF\n");
    Reading.only("# ", "", "", "");
    Reading.only("# EOF", "\n", Reading.UPPER, "");
    Reading.only(Reading.EOF, "", "", "");
    Reading.only("# TYPE", " ", Reading.UPPER, "a counter\n");
    Reading.only("# TYPE a", " ", Reading.NAMES, "counter\n");
    Reading.only("# TYPE a counter", "\n", Reading.LOWER, Reading.EOF);
    Reading.only(B + "# UNIT", " ", Reading.UPPER, "b_s s\n");
    Reading.only(B + "# UNIT b_s", " ", Reading.NAMES, "s\n");
    Reading.only(B + "# UNIT b_s ", Reading.LOWER + Reading.DIGITS + "_", "", "\n");
    Reading.only(B + "# UNIT b_s s", "\n", Reading.LOWER + Reading.DIGITS + "_", Reading.EOF);
    Reading.only(B + "# HELP", " ", Reading.UPPER, "b_s s\n");
    Reading.only(B + "# HELP b_s", " ", Reading.NAMES, "s\n");
  }

  private static String escaped() {
    StringBuilder out = new StringBuilder();
    for (char b = 32; b < 127; b++) {
      out.append(b == '"' ? "" : b);
    }
    return out.toString();
  }

  private static void escapedBytes() {
    Check.sentence("ESCAPED: bytes 32 .. 126 but \" and 92, or 92 and one of n, \", 92 (each such pair counts as one).");
    String help = Reading.A + "# HELP a ";
    String value = Reading.G + "g{a=\"";
    Reading.only(help, escaped(), "", "n\n" + Reading.EOF);
    Reading.only(help + "x", escaped() + "\n", "", "n\n" + Reading.EOF);
    Reading.only(help + "\\", ESCAPES, "", "\n" + Reading.EOF);
    Reading.only(help + "\\\\", escaped() + "\n", "", "n\n" + Reading.EOF);
    Reading.only(value, escaped() + "\"", "", "n\"} 1\n" + Reading.EOF);
    Reading.only(value + "x", escaped() + "\"", "", "n\"} 1\n" + Reading.EOF);
    Reading.only(value + "\\", ESCAPES, "", "\"} 1\n" + Reading.EOF);
    for (char b = 32; b < 127; b++) {
      if (b != '"' && b != '\\') {
        MeterSheet x = new MeterSheet();
        String text = Reading.G + "# HELP g " + b + b + "\ng{a=\"" + b + b + "\"} 1\n" + Reading.EOF;
        Check.due("byte " + (int) b, "0 at -1", Check.read(x, text));
        Check.due("byte " + (int) b + " is kept", text, Check.written(x, 1, 0));
      }
    }
    MeterSheet x = new MeterSheet();
    String pairs = Reading.G + "# HELP g \\n\\\"\\\\\\n\ng{a=\"\\\\\\\"\\n\\\\n\"} 1\n" + Reading.EOF;
    Check.due("pairs", "0 at -1", Check.read(x, pairs));
    Check.due("pairs in a help count as one", 4, x.familyOf(1, 0, 4));
    Check.due("pairs in a value count as one", 8, x.childOf(1, 0, 1));
    Check.due("pairs are kept", pairs, Check.written(x, 1, 0));
  }

  private static void numbers() {
    Check.sentence("NUMBER, read: maybe -; a run of 0 .. 9 (one at least); maybe a point and a run of them (one at least).");
    String[] texts = {"0", "-0", "007", "1.5", "-1.500", "999999999999.999", "-999999999999.999", "-000000000000.000",
        "000000000001", "0.001", "-0.010", "12.3", "12.34", "12.345", "999999999999.9", "-012.050"};
    long[] numbers = {0, 0, 7000, 1500, -1500, Check.MOST, -Check.MOST, 0, 1000, 1, -10, 12300, 12340, 12345,
        999999999999900L, -12050};
    MeterSheet x = new MeterSheet();
    for (int k = 0; k < texts.length; k++) {
      Check.due(texts[k], "0 at -1", Check.read(x, Reading.G + "g " + texts[k] + "\n" + Reading.EOF));
      Check.due(texts[k] + " is", numbers[k], x.childOf(1, 0, 2));
    }
    fault(Reading.SYNTAX, Reading.G + "g ~");
    fault(Reading.SYNTAX, Reading.G + "g ~\n");
    fault(Reading.SYNTAX, Reading.G + "g ~+1\n");
    fault(Reading.SYNTAX, Reading.G + "g -~\n");
    fault(Reading.SYNTAX, Reading.G + "g -~-1\n");
    fault(Reading.SYNTAX, Reading.G + "g ~.5\n");
    fault(Reading.SYNTAX, Reading.G + "g -~.5\n");
    fault(Reading.SYNTAX, Reading.G + "g 1.~\n");
    fault(Reading.SYNTAX, Reading.G + "g 1.~.5\n");
    fault(Reading.SYNTAX, Reading.G + "g 1.~-5\n");
    fault(Reading.SYNTAX, Reading.G + "g 1.5~.5\n");
    fault(Reading.SYNTAX, Reading.G + "g 1~e5\n");
    fault(Reading.SYNTAX, Reading.G + "g ~NaN\n");
    fault(Reading.SYNTAX, Reading.G + "g ~ 1\n");
  }

  private static void numbersThatAreTooLong() {
    Check.sentence("11 VALUE, if the first run is longer than 12 or the second than 3 (place: of the number), or as told.");
    String[] before = {Reading.G + "g ", Reading.A + "a_total ", Reading.A + "a_total 1\na_created ",
        Reading.H + "h_bucket{le=\"1\"} ", Reading.H + Reading.INF + "1\nh_count ",
        Reading.H + Reading.INF + "1\nh_count 1\nh_sum ", Reading.H + Reading.INF + "1\nh_count 1\nh_sum 1\nh_created ",
        Reading.I + "i_info ", Reading.S + "s{s=\"\"} ", Reading.A + "a_total 1 # {} ", Reading.A + "a_total 1 # {} 1 ",
        Reading.H + Reading.INF + "1 # {} ", Reading.H + Reading.INF + "1 # {} 1 "};
    for (String text : before) {
      fault(Reading.VALUE, text + "~0000000000001\n");
      fault(Reading.VALUE, text + "~1.0000\n");
      fault(Reading.VALUE, text + "~-0000000000001.0\n");
      fault(Reading.VALUE, text + "~0000000000001.0000!");
      fault(Reading.SYNTAX, text + "0000000000001.~!");
      fault(Reading.SYNTAX, text + "000000000001.000~!");
    }
    fault(Reading.VALUE, Reading.G + "g ~1234567890123\n");
    fault(Reading.VALUE, Reading.G + "g ~0000000000000");
    fault(Reading.VALUE, Reading.G + "g ~-1234567890123x");
    fault(Reading.VALUE, Reading.G + "g ~" + "9".repeat(30) + "\n");
    fault(Reading.VALUE, Reading.G + "g ~0." + "9".repeat(30) + "\n");
    fault(Reading.VALUE, Reading.G + "g ~" + "0".repeat(600) + "\n");
    good(Reading.G + "g 123456789012\n" + Reading.EOF);
    good(Reading.G + "g -123456789012.123\n" + Reading.EOF);
  }

  private static void numberBytes() {
    Check.sentence("1 SYNTAX: a byte that is not one that may stand there (place: that byte).");
    Reading.only(Reading.G + "g ", "-" + Reading.DIGITS, "", "1\n");
    Reading.only(Reading.G + "g -", Reading.DIGITS, "", "\n");
    Reading.only(Reading.G + "g 1", ".\n" + Reading.DIGITS, "", "5\n");
    Reading.only(Reading.G + "g 1.", Reading.DIGITS, "", "\n");
    Reading.only(Reading.G + "g 1.5", "\n" + Reading.DIGITS, "", "\n");
  }

  private static void lineBeginnings() {
    Check.sentence("A line begins with # or a byte of names.");
    good(Reading.EOF);
    fault(Reading.SYNTAX, "~");
    fault(Reading.SYNTAX, "~\n");
    fault(Reading.SYNTAX, "~ # EOF\n");
    fault(Reading.SYNTAX, "~{");
    fault(Reading.SYNTAX, Reading.A + "~");
    fault(Reading.SYNTAX, Reading.A + "~\n");
    fault(Reading.SYNTAX, Reading.A + "a_total 1~");
    fault(Reading.SYNTAX, Reading.A + "a_total 1~\r\n");
    fault(Reading.SYNTAX, Reading.A + "a_total 1\n~\n");
    fault(Reading.SYNTAX, Reading.A + "a_total 1\n~");
    Check.sentence("Otherwise a run of bytes of names, a sample's (ORDER, if there is no family).");
    fault(Reading.ORDER, "~a");
    fault(Reading.ORDER, "~9 1\n");
    fault(Reading.ORDER, "~a_total{");
    fault(Reading.ORDER, "~a_total 1\n" + Reading.EOF);
    fault(Reading.ORDER, "~:!");
  }

  private static void otherRuns() {
    Check.sentence("Another run: SYNTAX (place: the run).");
    for (String run : new String[] {"", "E", "EO", "EOFX", "EOFEOF", "T", "TYPES", "TYP", "UNITS", "UNI", "HELPS", "HEL", "X",
        "INFO"}) {
      fault(Reading.SYNTAX, "# ~" + run + "\n");
      fault(Reading.SYNTAX, "# ~" + run);
      fault(Reading.SYNTAX, B + "# ~" + run + " b_s s\n");
      fault(Reading.SYNTAX, Reading.H + Reading.INF + "1\n# ~" + run + "\n");
    }
    fault(Reading.SYNTAX, "# ~eof\n");
    fault(Reading.SYNTAX, "# ~ EOF\n");
    fault(Reading.SYNTAX, "# ~type a counter\n");
    fault(Reading.SYNTAX, "#~EOF\n");
    fault(Reading.SYNTAX, "#~\n");
  }

  private static final String[] WHOLE = {"", Reading.A, B + "# UNIT b_s s\n", Reading.A + "# HELP a x\n",
      Reading.A + "a_total 1\n", Reading.A + "a_total 1\na_created 1\n", Reading.G + "g 1\n",
      Reading.H + Reading.INF + "1\nh_count 1\nh_sum 1\n", Reading.H + Reading.INF + "1\nh_count 1\nh_sum 1\nh_created 1\n",
      Reading.I + "i_info 1\n", Reading.S + "s{s=\"a\"} 1\n", Reading.S + "s{s=\"a\"} 1\ns{s=\"b\"} 1\n",
      Reading.S + "s{s=\"a\"} 1\ns{x=\"\",s=\"a\"} 1\n",
      Reading.S + "s{s=\"a\"} 1\ns{s=\"b\"} 1\ns{x=\"\",s=\"a\"} 1\ns{x=\"\",s=\"b\"} 1\n"};

  private static final String[] NOT_WHOLE = {Reading.H + "h_bucket{le=\"1\"} 1\n", Reading.H + Reading.INF + "1\n",
      Reading.H + Reading.INF + "1\nh_count 1\n", Reading.H + Reading.INF + "1\nh_count 1\nh_sum 1\nh_bucket{a=\"\",le=\"+Inf\"} 1\n",
      Reading.S + "s{s=\"a\"} 1\ns{s=\"b\"} 1\ns{x=\"\",s=\"a\"} 1\n",
      Reading.S + "s{s=\"a\"} 1\ns{s=\"b\"} 1\ns{s=\"c\"} 1\ns{x=\"\",s=\"a\"} 1\ns{x=\"\",s=\"b\"} 1\n"};

  private static void ends() {
    Check.sentence("then a byte 10, and nothing more.");
    for (String whole : WHOLE) {
      good(whole + Reading.EOF);
      fault(Reading.SYNTAX, whole + "# EOF~");
      fault(Reading.SYNTAX, whole + "# EOF~ \n");
      fault(Reading.SYNTAX, whole + Reading.EOF + "~" + Reading.EOF);
      fault(Reading.SYNTAX, whole + Reading.EOF + "~\n");
      fault(Reading.SYNTAX, whole + Reading.EOF + "~a");
    }
    fault(Reading.SYNTAX, Reading.A + "a_total 1\n" + Reading.EOF + "~a_created 1\n");
  }

  private static void endsBehindAChildThatIsNotWhole() {
    Check.sentence("EOF: 5 ORDER (place: #) if the last child is not WHOLE");
    for (String notWhole : NOT_WHOLE) {
      fault(Reading.ORDER, notWhole + "~# EOF\n");
      fault(Reading.ORDER, notWhole + "~# EOF");
      fault(Reading.ORDER, notWhole + "~# EOF!");
      fault(Reading.SYNTAX, notWhole + "# ~EOFS");
      fault(Reading.SYNTAX, notWhole + "#~");
    }
  }

  private static void typesBehindAChildThatIsNotWhole() {
    Check.sentence("TYPE: ORDER likewise");
    for (String notWhole : NOT_WHOLE) {
      fault(Reading.ORDER, notWhole + "~# TYPE z gauge\n");
      fault(Reading.ORDER, notWhole + "~# TYPE\n");
      fault(Reading.ORDER, notWhole + "~# TYPE 9 counter\n");
    }
    for (String whole : WHOLE) {
      good(whole + "# TYPE z gauge\n" + Reading.EOF);
    }
  }

  private static void familyNames() {
    Check.sentence("a run of bytes of names (a .. z, A .. Z, 0 .. 9, _, :): 2 NAME, if it is no family's name");
    fault(Reading.NAME, "# TYPE ~");
    fault(Reading.NAME, "# TYPE ~\n");
    fault(Reading.NAME, "# TYPE ~ counter\n");
    fault(Reading.NAME, "# TYPE ~9a counter\n");
    fault(Reading.NAME, "# TYPE ~0");
    fault(Reading.NAME, "# TYPE ~abcdefghijklmnopqrstuvwxy counter\n");
    fault(Reading.NAME, "# TYPE ~" + "a".repeat(500) + "\n");
    good("# TYPE abcdefghijklmnopqrstuvwx counter\n" + Reading.EOF);
    good("# TYPE z counter\n" + Reading.EOF);
    good("# TYPE :__ counter\n" + Reading.EOF);
    good("# TYPE __9 counter\n" + Reading.EOF);
    for (char b : Reading.NAMES.toCharArray()) {
      if (b >= '0' && b <= '9') {
        fault(Reading.NAME, "# TYPE ~" + b + " gauge\n");
      } else {
        good("# TYPE " + b + " gauge\n" + Reading.EOF);
      }
      good("# TYPE a" + b + "a gauge\n" + Reading.EOF);
    }
    fault(Reading.SYNTAX, "# TYPE~\n");
    fault(Reading.SYNTAX, "# TYPE~a counter\n");
    fault(Reading.SYNTAX, "# TYPE a~-b counter\n");
    fault(Reading.SYNTAX, "# TYPE a~\n");
  }

  private static void eightFamilies() {
    Check.sentence("14 FULL, if there are 8");
    StringBuilder eight = new StringBuilder();
    for (int k = 0; k < 7; k++) {
      eight.append("# TYPE f").append(k).append(" gauge\n");
    }
    fault(Reading.CLASH, eight + "# TYPE ~f6 gauge\n");
    eight.append("# TYPE f7 gauge\n");
    good(eight + Reading.EOF);
    fault(Reading.FULL, eight + "# TYPE ~f8 gauge\n");
    fault(Reading.FULL, eight + "# TYPE ~f7 x\n");
    fault(Reading.FULL, eight + "# TYPE ~f7");
    fault(Reading.FULL, eight + "f7 1\n# TYPE ~f8!");
    fault(Reading.NAME, eight + "# TYPE ~8 gauge\n");
    fault(Reading.NAME, eight + "# TYPE ~");
  }

  private static void kinds() {
    Check.sentence("a space, a run of a .. z: 3 KIND, if it is none");
    good(Reading.A + Reading.G + Reading.H + Reading.I + Reading.S + Reading.EOF);
    MeterSheet x = new MeterSheet();
    Check.read(x, Reading.S + Reading.I + Reading.H + Reading.G + Reading.A + Reading.EOF);
    for (int family = 0; family < 5; family++) {
      Check.due("kind", 4 - family, x.familyOf(1, family, 0));
    }
    for (String kind : new String[] {"", "c", "counte", "counters", "gaug", "gauges", "histogra", "histograms", "inf", "infos",
        "statese", "statesets", "unknown", "summary", "untyped", "Counter", "INFO", " counter", "9", "_"}) {
      fault(Reading.KIND, "# TYPE a ~" + kind + "\n");
      fault(Reading.KIND, "# TYPE a ~" + kind);
    }
    for (String kind : new String[] {"counter", "gauge", "histogram", "info", "stateset"}) {
      fault(Reading.SYNTAX, "# TYPE a " + kind + "~ \n");
      fault(Reading.SYNTAX, "# TYPE a " + kind + "~");
      fault(Reading.SYNTAX, "# TYPE a " + kind + "~9\n");
      fault(Reading.SYNTAX, "# TYPE a " + kind + "~S\n");
    }
  }

  private static final String[] KINDS = {"counter", "gauge", "histogram", "info", "stateset"};
  private static final String[][] ENDS = {{"", "_total", "_created"}, {""}, {"", "_bucket", "_count", "_sum", "_created"},
      {"", "_info"}, {""}};

  private static boolean haveOneInCommon(int kind, String name, int otherKind, String other) {
    for (String end : ENDS[kind]) {
      for (String otherEnd : ENDS[otherKind]) {
        if ((name + end).equals(other + otherEnd)) {
          return true;
        }
      }
    }
    return false;
  }

  private static void clashes() {
    Check.sentence("then 4 CLASH (place: the name), if an own name is one of another family");
    String[] ends = {"", "_total", "_created", "_bucket", "_count", "_sum", "_info", "_gauge", "_total_created", "b"};
    for (int kind = 0; kind < 5; kind++) {
      for (int other = 0; other < 5; other++) {
        for (String end : ends) {
          clash(kind, "a", other, "a" + end);
          clash(kind, "a" + end, other, "a");
        }
      }
    }
    fault(Reading.CLASH, Reading.A + "# TYPE ~a counter");
    fault(Reading.CLASH, Reading.A + "# TYPE ~a counter!");
    fault(Reading.CLASH, Reading.A + Reading.G + "# TYPE ~a_created gauge\n");
    fault(Reading.KIND, Reading.A + "# TYPE a ~x\n");
  }

  private static void clash(int kind, String name, int otherKind, String other) {
    String first = "# TYPE " + name + " " + KINDS[kind] + "\n";
    if (haveOneInCommon(kind, name, otherKind, other)) {
      fault(Reading.CLASH, first + "# TYPE ~" + other + " " + KINDS[otherKind] + "\n");
    } else {
      good(first + "# TYPE " + other + " " + KINDS[otherKind] + "\n" + Reading.EOF);
    }
  }

  private static void unitsInOrder() {
    Check.sentence("UNIT: ORDER, if it does not stand behind TYPE");
    good(B + "# UNIT b_s s\n" + Reading.EOF);
    fault(Reading.ORDER, "~# UNIT b_s s\n");
    fault(Reading.ORDER, B + "# UNIT b_s s\n~# UNIT b_s s\n");
    fault(Reading.ORDER, B + "# HELP b_s s\n~# UNIT b_s s\n");
    fault(Reading.ORDER, B + "b_s_total 1\n~# UNIT b_s s\n");
    fault(Reading.ORDER, B + "b_s_total 1\n~# UNIT!");
    fault(Reading.ORDER, Reading.H + Reading.INF + "1\n~# UNIT h h\n");
    good(Reading.A + "a_total 1\n" + B + "# UNIT b_s s\n" + Reading.EOF);
  }

  private static void unitNames() {
    Check.sentence("a space, such a run: NAME, if it is not the family's");
    fault(Reading.NAME, B + "# UNIT ~");
    fault(Reading.NAME, B + "# UNIT ~ s\n");
    fault(Reading.NAME, B + "# UNIT ~b s\n");
    fault(Reading.NAME, B + "# UNIT ~b_ s\n");
    fault(Reading.NAME, B + "# UNIT ~b_s_total s\n");
    fault(Reading.NAME, B + "# UNIT ~B_s s\n");
    fault(Reading.NAME, B + "# UNIT ~b_ss!");
    fault(Reading.NAME, B + "# TYPE c_s gauge\n# UNIT ~b_s s\n");
    fault(Reading.SYNTAX, B + "# UNIT~");
    fault(Reading.SYNTAX, B + "# UNIT~b_s s\n");
  }

  private static void units() {
    Check.sentence("a space, a run of a .. z, 0 .. 9, _ (one at least): 6 UNIT, if it is not as said for the family");
    fault(Reading.SYNTAX, B + "# UNIT b_s~\n");
    fault(Reading.SYNTAX, B + "# UNIT b_s ~\n");
    fault(Reading.SYNTAX, B + "# UNIT b_s ~");
    fault(Reading.SYNTAX, B + "# UNIT b_s ~S\n");
    fault(Reading.SYNTAX, B + "# UNIT b_s s~ \n");
    fault(Reading.SYNTAX, B + "# UNIT b_s s~S\n");
    fault(Reading.UNIT, B + "# UNIT b_s ~t\n");
    fault(Reading.UNIT, B + "# UNIT b_s ~_s\n");
    fault(Reading.UNIT, B + "# UNIT b_s ~ss\n");
    fault(Reading.UNIT, B + "# UNIT b_s ~b_s\n");
    fault(Reading.UNIT, B + "# UNIT b_s ~tA\n");
    fault(Reading.UNIT, B + "# UNIT b_s ~t");
    fault(Reading.UNIT, "# TYPE _s counter\n# UNIT _s ~s\n");
    fault(Reading.UNIT, "# TYPE s counter\n# UNIT s ~s\n");
    fault(Reading.UNIT, "# TYPE abs counter\n# UNIT abs ~s\n");
    fault(Reading.UNIT, "# TYPE b_s info\n# UNIT b_s ~s\n");
    fault(Reading.UNIT, "# TYPE b_s stateset\n# UNIT b_s ~s\n");
    for (String kind : new String[] {"counter", "gauge", "histogram"}) {
      good("# TYPE __12345678 " + kind + "\n# UNIT __12345678 12345678\n" + Reading.EOF);
      fault(Reading.UNIT, "# TYPE __123456789 " + kind + "\n# UNIT __123456789 ~123456789\n");
      good("# TYPE a_b_c " + kind + "\n# UNIT a_b_c c\n" + Reading.EOF);
      good("# TYPE a_b_c " + kind + "\n# UNIT a_b_c b_c\n" + Reading.EOF);
    }
    MeterSheet x = new MeterSheet();
    Check.read(x, "# TYPE a_b_c gauge\n# UNIT a_b_c b_c\n" + Reading.EOF);
    Check.due("its bytes", 3, x.familyOf(1, 0, 3));
  }

  private static void helpsInOrder() {
    Check.sentence("HELP: ORDER, if it does not stand behind TYPE or UNIT");
    good(B + "# HELP b_s s\n" + Reading.EOF);
    good(B + "# UNIT b_s s\n# HELP b_s s\nb_s_total 1\n" + Reading.EOF);
    fault(Reading.ORDER, "~# HELP a s\n");
    fault(Reading.ORDER, Reading.A + "# HELP a s\n~# HELP a s\n");
    fault(Reading.ORDER, B + "# UNIT b_s s\n# HELP b_s s\n~# HELP b_s s\n");
    fault(Reading.ORDER, B + "# UNIT b_s s\nb_s_total 1\n~# HELP b_s s\n");
    fault(Reading.ORDER, Reading.A + "a_total 1\n~# HELP a s\n");
    fault(Reading.ORDER, Reading.A + "a_total 1\n~# HELP!");
    fault(Reading.ORDER, Reading.H + Reading.INF + "1\n~# HELP h h\n");
  }

  private static void helpNames() {
    Check.sentence("a space, such a run: NAME likewise");
    fault(Reading.NAME, Reading.A + "# HELP ~");
    fault(Reading.NAME, Reading.A + "# HELP ~ s\n");
    fault(Reading.NAME, Reading.A + "# HELP ~a_total s\n");
    fault(Reading.NAME, Reading.A + "# HELP ~A s\n");
    fault(Reading.NAME, Reading.A + "# HELP ~b!");
    fault(Reading.NAME, Reading.A + Reading.G + "# HELP ~a s\n");
    fault(Reading.SYNTAX, Reading.A + "# HELP~\n");
    fault(Reading.SYNTAX, Reading.A + "# HELP a~\n");
  }

  private static void helpsOfOneAtLeast() {
    Check.sentence("a space, ESCAPED bytes up to a byte 10, one at least");
    good(Reading.A + "# HELP a x\n" + Reading.EOF);
    good(Reading.A + "# HELP a  \n" + Reading.EOF);
    good(Reading.A + "# HELP a \\n\n" + Reading.EOF);
    good(Reading.A + "# HELP a it's {all} so # \\n\\\"\\\\\n" + Reading.EOF);
    fault(Reading.SYNTAX, Reading.A + "# HELP a ~\n");
    fault(Reading.SYNTAX, Reading.A + "# HELP a ~");
    fault(Reading.SYNTAX, Reading.A + "# HELP a b~");
    fault(Reading.SYNTAX, Reading.A + "# HELP a b~\"c\n");
    fault(Reading.SYNTAX, Reading.A + "# HELP a b~\t\n");
    fault(Reading.SYNTAX, Reading.A + "# HELP a b\\~x\n");
    fault(Reading.SYNTAX, Reading.A + "# HELP a b\\~\n");
    fault(Reading.SYNTAX, Reading.A + "# HELP a b\\~");
  }

  private static void helpsThatAreTooLong() {
    Check.sentence("then, 7 LONG, if they are more than 40 (looked at when the byte 10 is there, as with labels the quote).");
    good(Reading.A + "# HELP a " + FORTY + "\n" + Reading.EOF);
    good(Reading.A + "# HELP a " + FORTY.substring(3) + "\\n\\n\\n\n" + Reading.EOF);
    good(Reading.A + "# HELP a " + "\\\\".repeat(40) + "\n" + Reading.EOF);
    fault(Reading.LONG, Reading.A + "# HELP a ~" + FORTY + "0\n");
    fault(Reading.LONG, Reading.A + "# HELP a ~" + FORTY + "\\n\n");
    fault(Reading.LONG, Reading.A + "# HELP a ~" + "\\\\".repeat(41) + "\n");
    fault(Reading.LONG, Reading.A + "# HELP a ~" + FORTY.repeat(20) + "\n!");
    fault(Reading.SYNTAX, Reading.A + "# HELP a " + FORTY + "0~");
    fault(Reading.SYNTAX, Reading.A + "# HELP a " + FORTY + "0~\"\n");
    fault(Reading.SYNTAX, Reading.A + "# HELP a " + FORTY + "0\\~x\n");
  }

  private static void headsThatAreFoundFirst() {
    Check.sentence("Others are found when their token has been read (place: its beginning).");
    fault(Reading.NAME, Reading.A + "# TYPE ~9 x\n");
    fault(Reading.NAME, B + "# UNIT ~c T\n");
    fault(Reading.UNIT, B + "# UNIT b_s ~t!");
    fault(Reading.ORDER, B + "# UNIT b_s s\n~# UNIT c t\n");
    fault(Reading.SYNTAX, B + "# UNIT b_s~!t\n");
    fault(Reading.KIND, "# TYPE a ~x!");
    fault(Reading.SYNTAX, "# TYPE a~!x\n");
  }

  private static void fullTapes() {
    Check.sentence("The TAPE has at most 4000, none at first");
    String long4000 = Reading.A + "# HELP a " + "x".repeat(4000 - 17 - 9 - 1) + "\n";
    fault(Reading.LONG, long4000.substring(0, 26) + "~" + long4000.substring(26));
    Reading.faultAt(Reading.SYNTAX, 4000, long4000.substring(0, 3999) + "x");
    Reading.faultAt(Reading.SYNTAX, 4000, Reading.G + "g{a=\"" + "x".repeat(4000 - 20));
    Reading.faultAt(Reading.NAME, 7, "# TYPE " + "a".repeat(3993));
    Reading.faultAt(Reading.VALUE, 17, Reading.G + "g " + "1".repeat(3983));
    Reading.faultAt(Reading.SYNTAX, 4000, Reading.G + "g " + "1".repeat(3982) + ".");
  }
}
