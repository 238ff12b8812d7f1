/** Promises 20 and 21, of reading: bounds, states, the numbers of samples, and exemplars. */
public final class ReadValueTest {
  private static final String A = Reading.A;
  private static final String G = Reading.G;
  private static final String H = Reading.H;
  private static final String I = Reading.I;
  private static final String S = Reading.S;
  private static final String INF = Reading.INF;
  private static final String EOF = Reading.EOF;
  private static final String TAIL = "h_count 1\nh_sum 1\n";

  public static void main(String[] args) {
    boundsAsWritten();
    boundsThatAreNoNumbers();
    boundsThatDoNotRise();
    boundsOfTheFirstChild();
    sevenBounds();
    statesTwice();
    statesOfTheFirstChild();
    fiveStates();
    statesThatWereRead();
    totals();
    timesOfCreation();
    counts();
    gaugesAndSums();
    facts();
    statesOnOrOff();
    countsBelowTheOneBefore();
    countsOfAll();
    countsThatWereRead();
    bytesOfExemplars();
    exemplarsWhereTheyMayStand();
    exemplarLabels();
    exemplarsOfAsManyBytesAsMayBe();
    exemplarsInTheirBucket();
    exemplarsOfNoObservation();
    exemplarsOfTotals();
    timesOfExemplars();
    exemplarsThatWereRead();
    valuesThatAreFoundFirst();
    Check.end();
  }

  private static void good(String text) {
    Reading.good(text);
  }

  private static void fault(int fault, String marked) {
    Reading.fault(fault, marked);
  }

  private static void boundsAsWritten() {
    Check.sentence("le: its value is +Inf or a number as it is written: VALUE (place: its first byte) if not");
    String[] texts = {"0", "1", "-1", "0.001", "-0.001", "0.01", "0.1", "1.5", "10", "100.25", "999999999999.999",
        "-999999999999.999"};
    long[] numbers = {0, 1000, -1000, 1, -1, 10, 100, 1500, 10000, 100250, Check.MOST, -Check.MOST};
    for (int k = 0; k < texts.length; k++) {
      MeterSheet x = new MeterSheet();
      Check.due(texts[k], "0 at -1",
          Check.read(x, H + "h_bucket{le=\"" + texts[k] + "\"} 1\n" + INF + "1\n" + TAIL + EOF));
      Check.due(texts[k] + " is", numbers[k], x.bucket(1, 0, 0, 0));
    }
    good(H + INF + "1\n" + TAIL + EOF);
  }

  private static void boundsThatAreNoNumbers() {
    Check.sentence("le: its value is +Inf or a number as it is written: VALUE (place: its first byte) if not");
    for (String wrong : new String[] {"", "1.0", "01", "00", "-0", "-00.5", "0.", "1.", ".5", "-.5", "1.50", "1.500", "1.2345",
        "0.0", "0.000", "+1", "+0", "Inf", "-Inf", "+inf", "+INF", "+In", "+Inf ", " +Inf", "+Infx", "NaN", " 1", "1 ", "1\\n",
        "\\n1", "\\\"1", "1\\\\", "1e3", "1,5", "1234567890123", "-1234567890123", "-", "--1", "1-", "1.5.5", "x"}) {
      fault(Reading.VALUE, H + "h_bucket{le=\"~" + wrong + "\"} 1\n");
      fault(Reading.VALUE, H + "h_bucket{le=\"~" + wrong + "\"}");
      fault(Reading.VALUE, H + "h_bucket{z=\"\",le=\"~" + wrong + "\"} 1\n");
    }
  }

  private static void boundsThatDoNotRise() {
    Check.sentence("12 BUCKETS (there, too), if it does not rise above the one before");
    String[][] rising = {{"1", "1.001"}, {"-1", "0"}, {"-2", "-1"}, {"9", "10"}, {"-0.001", "0"}, {"0", "0.001"},
        {"-999999999999.999", "999999999999.999"}};
    for (String[] two : rising) {
      good(H + "h_bucket{le=\"" + two[0] + "\"} 1\nh_bucket{le=\"" + two[1] + "\"} 1\n" + INF + "1\n" + TAIL + EOF);
      fault(Reading.BUCKETS, H + "h_bucket{le=\"" + two[1] + "\"} 1\nh_bucket{le=\"~" + two[0] + "\"} 1\n");
      fault(Reading.BUCKETS, H + "h_bucket{le=\"" + two[0] + "\"} 1\nh_bucket{le=\"~" + two[0] + "\"}");
    }
    fault(Reading.BUCKETS, H + "h_bucket{le=\"1\"} 1\nh_bucket{le=\"3\"} 1\nh_bucket{le=\"~2\"} 1\n");
  }

  private static void boundsOfTheFirstChild() {
    Check.sentence("is not the one that the family's first child had at that place");
    String first = H + "h_bucket{le=\"1\"} 1\nh_bucket{le=\"2\"} 1\n" + INF + "1\n" + TAIL + "h_bucket{a=\"\",le=\"";
    String second = "1\"} 1\nh_bucket{a=\"\",le=\"";
    String third = "2\"} 1\nh_bucket{a=\"\",le=\"";
    String last = "+Inf\"} 1\nh_count{a=\"\"} 1\nh_sum{a=\"\"} 1\n";
    good(first + second + third + last + EOF);
    fault(Reading.BUCKETS, first + "~0\"} 1\n");
    fault(Reading.BUCKETS, first + "~2\"} 1\n");
    fault(Reading.BUCKETS, first + "~1.001\"} 1\n");
    fault(Reading.BUCKETS, first + "~+Inf\"} 1\n");
    fault(Reading.BUCKETS, first + "~+Inf\"}!");
    fault(Reading.BUCKETS, first + second + "~1\"} 1\n");
    fault(Reading.BUCKETS, first + second + "~1.5\"} 1\n");
    fault(Reading.BUCKETS, first + second + "~+Inf\"} 1\n");
    fault(Reading.BUCKETS, first + second + third + "~3\"} 1\n");
    fault(Reading.BUCKETS, H + "h_bucket{le=\"-1\"} 1\n" + INF + "1\n" + TAIL + "h_bucket{a=\"\",le=\"-1\"} 1\n"
        + "h_bucket{a=\"\",le=\"~0\"} 1\n");
    fault(Reading.BUCKETS, H + INF + "1\n" + TAIL + "h_bucket{a=\"\",le=\"~0\"} 1\n");
    fault(Reading.VALUE, first + "~x\"} 1\n");
    fault(Reading.BUCKETS, H + INF + "1\n" + TAIL + "h_bucket{a=\"\",le=\"~1\"} 1\n");
    String other = "# TYPE k histogram\nk_bucket{le=\"7\"} 1\nk_bucket{le=\"+Inf\"} 1\nk_count 1\nk_sum 1\n";
    good(first + second + third + last + other + EOF);
    good(first + second + third + last + "h_bucket{b=\"\",le=\"1\"} 1\nh_bucket{b=\"\",le=\"2\"} 1\nh_bucket{b=\"\",le=\"+Inf\"} 1\n"
        + "h_count{b=\"\"} 1\nh_sum{b=\"\"} 1\n" + EOF);
  }

  private static void sevenBounds() {
    Check.sentence("or is the seventh that is not +Inf.");
    StringBuilder six = new StringBuilder(H);
    for (int k = 1; k <= 6; k++) {
      six.append("h_bucket{le=\"").append(k).append("\"} 1\n");
    }
    good(six + INF + "1\n" + TAIL + EOF);
    fault(Reading.BUCKETS, six + "h_bucket{le=\"~7\"} 1\n");
    fault(Reading.BUCKETS, six + "h_bucket{le=\"~6\"} 1\n");
    fault(Reading.BUCKETS, six + "h_bucket{le=\"~7\"}");
    fault(Reading.VALUE, six + "h_bucket{le=\"~x\"} 1\n");
    MeterSheet x = new MeterSheet();
    Check.read(x, six + INF + "1\n" + TAIL + EOF);
    Check.due("six bounds", 6, x.familyOf(1, 0, 5));
    String of = six.substring(H.length()).replace("{", "{a=\"\",");
    good(six + INF + "1\n" + TAIL + of + "h_bucket{a=\"\",le=\"+Inf\"} 1\nh_count{a=\"\"} 1\nh_sum{a=\"\"} 1\n" + EOF);
    fault(Reading.BUCKETS, six + INF + "1\n" + TAIL + of + "h_bucket{a=\"\",le=\"~7\"} 1\n");
  }

  private static void statesTwice() {
    Check.sentence("A state: TWICE (there), if the child has it");
    fault(Reading.TWICE, S + "s{s=\"a\"} 1\ns{s=\"~a\"} 1\n");
    fault(Reading.TWICE, S + "s{s=\"\"} 1\ns{s=\"~\"} 1\n");
    fault(Reading.TWICE, S + "s{s=\"a\"} 1\ns{s=\"b\"} 1\ns{s=\"~a\"}!");
    fault(Reading.TWICE, S + "s{s=\"\\n\"} 1\ns{s=\"b\"} 1\ns{s=\"c\"} 1\ns{s=\"~\\n\"} 1\n");
    fault(Reading.TWICE, S + "s{s=\"a\"} 1\ns{s=\"b\"} 1\ns{x=\"\",s=\"a\"} 1\ns{x=\"\",s=\"~a\"} 1\n");
    good(S + "s{s=\"a\"} 1\ns{s=\"aa\"} 1\ns{s=\"A\"} 1\ns{s=\"\"} 1\n" + EOF);
  }

  private static void statesOfTheFirstChild() {
    Check.sentence("for children behind the first: CHILD (there), if it is not the one that the first has at that place");
    String two = S + "s{s=\"a\"} 1\ns{s=\"b\"} 1\ns{x=\"\",s=\"";
    good(two + "a\"} 1\ns{x=\"\",s=\"b\"} 1\n" + EOF);
    fault(Reading.CHILD, two + "~b\"} 1\n");
    fault(Reading.CHILD, two + "~c\"} 1\n");
    fault(Reading.CHILD, two + "~\"} 1\n");
    fault(Reading.CHILD, two + "~aa\"}!");
    fault(Reading.CHILD, two + "a\"} 1\ns{x=\"\",s=\"~c\"} 1\n");
    fault(Reading.CHILD, two + "a\"} 1\ns{x=\"\",s=\"b\"} 1\ns{y=\"\",s=\"~b\"} 1\n");
  }

  private static void fiveStates() {
    Check.sentence("FULL (there), if it is the fifth.");
    String four = S + "s{s=\"\"} 1\ns{s=\"a\"} 0\ns{s=\"b\"} 1\ns{s=\"c\"} 0\n";
    good(four + EOF);
    fault(Reading.FULL, four + "s{s=\"~d\"} 0\n");
    fault(Reading.FULL, four + "s{s=\"~d\"}!");
    fault(Reading.TWICE, four + "s{s=\"~\"} 0\n");
    fault(Reading.TWICE, four + "s{s=\"~c\"} 0\n");
    good(four + "s{x=\"\",s=\"\"} 1\ns{x=\"\",s=\"a\"} 0\ns{x=\"\",s=\"b\"} 1\ns{x=\"\",s=\"c\"} 0\n" + EOF);
  }

  private static void statesThatWereRead() {
    Check.sentence("STATESET: whether each state is on, at first not.");
    MeterSheet x = new MeterSheet();
    String text = S + "s{s=\"a\\\"\"} 1\ns{s=\"b\"} 1\ns{x=\"\",s=\"a\\\"\"} 0\ns{x=\"\",s=\"b\"} 1\n" + EOF;
    Check.read(x, text);
    Check.due("both are on", 3, x.childOf(1, 0, 5));
    Check.due("the second is on", 2, x.childOf(1, 1, 5));
    Check.due("as it is written", text, Check.written(x, 1, 0));
  }

  private static void totals() {
    Check.sentence("VALUE: a total, a time of creation below 0");
    good(A + "a_total 0\n" + EOF);
    good(A + "a_total -0\n" + EOF);
    good(A + "a_total 0.001\n" + EOF);
    good(A + "a_total 999999999999.999\n" + EOF);
    fault(Reading.VALUE, A + "a_total ~-0.001\n");
    fault(Reading.VALUE, A + "a_total ~-1!");
    fault(Reading.VALUE, A + "a_total ~-999999999999.999 # {} 1 1\n");
  }

  private static void timesOfCreation() {
    Check.sentence("VALUE: a total, a time of creation below 0");
    String[] before = {A + "a_total 1\na_created ", H + INF + "1\n" + TAIL + "h_created "};
    for (String text : before) {
      good(text + "0\n" + EOF);
      good(text + "-0.0\n" + EOF);
      good(text + "0.001\n" + EOF);
      fault(Reading.VALUE, text + "~-0.001\n");
      fault(Reading.VALUE, text + "~-1");
    }
  }

  private static void counts() {
    Check.sentence("a count that is not whole, or below 0");
    String[] before = {H + "h_bucket{le=\"1\"} ", H + INF, H + INF + "2\nh_count "};
    for (String text : before) {
      fault(Reading.VALUE, text + "~0.5\n");
      fault(Reading.VALUE, text + "~2.001\n");
      fault(Reading.VALUE, text + "~-1\n");
      fault(Reading.VALUE, text + "~-2!");
      fault(Reading.VALUE, text + "~-0.5\n");
    }
    good(H + INF + "002.000\nh_count 2.0\nh_sum -5\n" + EOF);
    good(H + INF + "0\nh_count -0\nh_sum 0\n" + EOF);
    good(H + INF + "999999999999\nh_count 999999999999\nh_sum 0\n" + EOF);
  }

  private static void gaugesAndSums() {
    Check.sentence("GAUGE: a number, 0 at first.");
    MeterSheet x = new MeterSheet();
    for (String number : new String[] {"0", "-1", "0.5", "-999999999999.999", "999999999999.999"}) {
      String gauge = G + "g " + number + "\n" + EOF;
      String sum = H + INF + "1\nh_count 1\nh_sum " + number + "\n" + EOF;
      Check.due("gauge " + number, "0 at -1", Check.read(x, gauge));
      Check.due("as it is written", gauge, Check.written(x, 1, 0));
      Check.due("sum " + number, "0 at -1", Check.read(x, sum));
      Check.due("as it is written", sum, Check.written(x, 1, 0));
    }
  }

  private static void facts() {
    Check.sentence("INFO's not 1");
    good(I + "i_info 1\n" + EOF);
    good(I + "i_info 01.000\n" + EOF);
    for (String wrong : new String[] {"0", "2", "-1", "1.001", "0.999", "1000", "0.001", "10"}) {
      fault(Reading.VALUE, I + "i_info ~" + wrong + "\n");
      fault(Reading.VALUE, I + "i_info{a=\"\"} ~" + wrong + "!");
    }
  }

  private static void statesOnOrOff() {
    Check.sentence("a state's not 1 or 0.");
    for (String right : new String[] {"0", "1", "-0", "00.0", "1.000", "001"}) {
      good(S + "s{s=\"a\"} " + right + "\n" + EOF);
      good(S + "s{s=\"a\"} 1\ns{s=\"b\"} " + right + "\n" + EOF);
    }
    for (String wrong : new String[] {"2", "-1", "0.001", "0.5", "0.999", "1.001", "1000"}) {
      fault(Reading.VALUE, S + "s{s=\"a\"} ~" + wrong + "\n");
      fault(Reading.VALUE, S + "s{s=\"a\"} 1\ns{s=\"b\"} ~" + wrong + "!");
    }
  }

  private static void countsBelowTheOneBefore() {
    Check.sentence("BUCKETS (place: of the number): a bucket's count below the one before");
    String two = H + "h_bucket{le=\"1\"} 2\n";
    fault(Reading.BUCKETS, two + INF + "~1\n");
    fault(Reading.BUCKETS, two + INF + "~1x");
    fault(Reading.BUCKETS, two + "h_bucket{le=\"2\"} ~0\n");
    fault(Reading.BUCKETS, two + "h_bucket{le=\"2\"} ~1 # {} 2 1\n");
    good(two + "h_bucket{le=\"2\"} 2\n" + INF + "2\nh_count 2\nh_sum 1\n" + EOF);
    good(two + "h_bucket{le=\"2\"} 3\n" + INF + "3\nh_count 3\nh_sum 1\n" + EOF);
    good(H + INF + "9\nh_count 9\nh_sum 1\nh_bucket{a=\"\",le=\"+Inf\"} 1\nh_count{a=\"\"} 1\nh_sum{a=\"\"} 1\n" + EOF);
  }

  private static void countsOfAll() {
    Check.sentence("name_count not that of +Inf.");
    fault(Reading.BUCKETS, H + INF + "2\nh_count ~1\n");
    fault(Reading.BUCKETS, H + INF + "2\nh_count ~3\n");
    fault(Reading.BUCKETS, H + INF + "2\nh_count ~0!");
    fault(Reading.BUCKETS, H + "h_bucket{le=\"1\"} 1\n" + INF + "2\nh_count ~1\n");
    good(H + "h_bucket{le=\"1\"} 1\n" + INF + "2\nh_count 2\nh_sum 0\n" + EOF);
  }

  private static void countsThatWereRead() {
    Check.sentence("HISTOGRAM: how many observations fell to each bound");
    MeterSheet x = new MeterSheet();
    Check.read(x, H + "h_bucket{le=\"1\"} 2\nh_bucket{le=\"3\"} 2\n" + INF + "7\nh_count 7\nh_sum 9.5\nh_created 0\n"
        + "h_bucket{a=\"\",le=\"1\"} 0\nh_bucket{a=\"\",le=\"3\"} 1\nh_bucket{a=\"\",le=\"+Inf\"} 1\nh_count{a=\"\"} 1\n"
        + "h_sum{a=\"\"} 2\n" + EOF);
    long[][] want = {{2, 0, 5}, {0, 1, 0}};
    for (int child = 0; child < 2; child++) {
      for (int b = 0; b < 3; b++) {
        Check.due("child " + child + " bound " + b, want[child][b], x.bucket(1, child, b, 1));
      }
    }
    Check.due("in all", "7 1", x.childOf(1, 0, 3) + " " + x.childOf(1, 1, 3));
    Check.due("sums", "9500 2000", x.childOf(1, 0, 2) + " " + x.childOf(1, 1, 2));
  }

  private static void bytesOfExemplars() {
    Check.sentence("1 SYNTAX: a byte that is not one that may stand there (place: that byte).");
    String[] before = {A + "a_total 1", H + "h_bucket{le=\"9\"} 1"};
    for (String text : before) {
      Reading.only(text, " \n." + Reading.DIGITS, "", "# {} 1 1\n");
      Reading.only(text + " ", "#", "", " {} 1 1\n");
      Reading.only(text + " #", " ", "", "{} 1 1\n");
      Reading.only(text + " # ", "{", "", "} 1 1\n");
      Reading.only(text + " # {", "}" + Reading.NAMES, "", "=\"\"} 1 1\n");
      Reading.only(text + " # {a", "=" + Reading.NAMES, "", "\"\"} 1 1\n");
      Reading.only(text + " # {a=", "\"", "", "\"} 1 1\n");
      Reading.only(text + " # {a=\"\"", ",}", "", " 1 1\n");
      Reading.only(text + " # {a=\"\",", Reading.NAMES, "", "");
      Reading.only(text + " # {}", " ", "", "1 1\n");
      Reading.only(text + " # {} ", "-" + Reading.DIGITS, "", "1 1\n");
      Reading.only(text + " # {} 1", " ." + Reading.DIGITS, "", "1 1\n");
      Reading.only(text + " # {} 1 ", "-" + Reading.DIGITS, "", "1\n");
      Reading.only(text + " # {} 1 1", "\n." + Reading.DIGITS, "", "1\n");
    }
  }

  private static void exemplarsWhereTheyMayStand() {
    Check.sentence("Then, behind name_total and name_bucket, maybe an exemplar");
    good(A + "a_total 5 # {} 1 1\n" + EOF);
    good(H + "h_bucket{le=\"1\"} 1 # {} 1 1\n" + INF + "1\n" + TAIL + EOF);
    good(H + INF + "1 # {} 1 1\n" + TAIL + EOF);
    fault(Reading.SYNTAX, A + "a_total 1\na_created 1~ # {} 1 1\n");
    fault(Reading.SYNTAX, G + "g 1~ # {} 1 1\n");
    fault(Reading.SYNTAX, I + "i_info 1~ # {} 1 1\n");
    fault(Reading.SYNTAX, S + "s{s=\"\"} 1~ # {} 1 1\n");
    fault(Reading.SYNTAX, H + INF + "1\nh_count 1~ # {} 1 1\n");
    fault(Reading.SYNTAX, H + INF + "1\nh_count 1\nh_sum 1~ # {} 1 1\n");
    fault(Reading.SYNTAX, H + INF + "1\n" + TAIL + "h_created 1~ # {} 1 1\n");
    fault(Reading.SYNTAX, A + "a_total 5 # {} 1 1~ # {} 1 1\n");
    fault(Reading.SYNTAX, A + "a_total 5 ~\n");
    fault(Reading.SYNTAX, A + "a_total 5 ~1\n");
    fault(Reading.SYNTAX, A + "a_total 5 ~");
  }

  private static void exemplarLabels() {
    Check.sentence("labels as above (none, too; at most 2, no one more), }");
    String start = A + "a_total 5 # ";
    good(start + "{} 1 1\n" + EOF);
    good(start + "{a=\"\"} 1 1\n" + EOF);
    good(start + "{a=\"\",le=\"123456789012\"} 9 0\na_created 1\n" + EOF);
    good(H + INF + "1 # {h=\"\",le=\"\"} 1 1\n" + TAIL + EOF);
    good(H + INF + "1 # {le=\"\",z=\"\"} 1 1\n" + TAIL + EOF);
    fault(Reading.LABEL, start + "{a=\"\",b=\"\",~c=\"\"} 1 1\n");
    fault(Reading.LABEL, start + "{a=\"\",b=\"\",~c=\"\"!");
    fault(Reading.LABEL, H + INF + "1 # {a=\"\",b=\"\",~le=\"\"} 1 1\n");
    fault(Reading.LABEL, H + INF + "1 # {m=\"\",~le=\"\"} 1 1\n");
    fault(Reading.LABEL, H + INF + "1 # {le=\"\",~le=\"\"} 1 1\n");
    fault(Reading.LABEL, start + "{~9=\"\"} 1 1\n");
    fault(Reading.LABEL, start + "{b=\"\",~a=\"\"} 1 1\n");
    fault(Reading.LABEL, start + "{a=\"\",~a=\"\"} 1 1\n");
    fault(Reading.SYNTAX, start + "~1 1\n");
    fault(Reading.SYNTAX, start + "{~,} 1 1\n");
    fault(Reading.SYNTAX, start + "{a=\"\",~} 1 1\n");
    fault(Reading.SYNTAX, start + "{a=\"\",b=\"\",~} 1 1\n");
  }

  private static void exemplarsOfAsManyBytesAsMayBe() {
    Check.sentence("LONG (place: {) if they have more than 40 bytes");
    MeterSheet x = new MeterSheet();
    String most = A + "a_total 5 # {abcdefgh=\"123456789012\",abcdefgi=\"123456789012\"} 9 0\n" + EOF;
    Check.due("40 bytes", "0 at -1", Check.read(x, most));
    Check.due("and what parts them", 44, x.bucket(1, 0, 0, 5));
    String pairs = A + "a_total 5 # {abcdefgh=\"" + "\\\\".repeat(12) + "\",abcdefgi=\"" + "\\n".repeat(12) + "\"} 9 0\n" + EOF;
    Check.due("40 bytes, many of them pairs", "0 at -1", Check.read(x, pairs));
    Check.due("as they are written", pairs, Check.written(x, 1, 0));
    fault(Reading.LABEL, A + "a_total 5 # {abcdefgh=\"123456789012\",~abcdefghi=\"123456789012\"} 9 0\n");
    fault(Reading.LONG, A + "a_total 5 # {abcdefgh=\"123456789012\",abcdefgi=\"~1234567890123\"} 9 0\n");
  }

  private static void exemplarsInTheirBucket() {
    Check.sentence("13 EXEMPLAR (place: of it), if it does not lie in the bucket (above the bound before, not above its own)");
    String one = H + "h_bucket{le=\"1\"} 1";
    String two = one + "\nh_bucket{le=\"2\"} 2";
    String all = two + "\n" + INF + "3";
    String tail = "\nh_count 3\nh_sum 1\n" + EOF;
    for (String in : new String[] {"1", "0.999", "0", "-5", "-999999999999.999"}) {
      good(one + " # {} " + in + " 1\nh_bucket{le=\"2\"} 2\n" + INF + "3" + tail);
    }
    fault(Reading.EXEMPLAR, one + " # {} ~1.001 1\n");
    fault(Reading.EXEMPLAR, one + " # {} ~2!");
    for (String in : new String[] {"1.001", "1.5", "2"}) {
      good(two + " # {} " + in + " 1\n" + INF + "3" + tail);
    }
    fault(Reading.EXEMPLAR, two + " # {} ~1 1\n");
    fault(Reading.EXEMPLAR, two + " # {} ~-1.5 1\n");
    fault(Reading.EXEMPLAR, two + " # {} ~2.001 1\n");
    for (String in : new String[] {"2.001", "999999999999.999"}) {
      good(all + " # {} " + in + " 1" + tail);
    }
    fault(Reading.EXEMPLAR, all + " # {} ~2 1\n");
    fault(Reading.EXEMPLAR, all + " # {} ~0");
    good(H + INF + "1 # {} -999999999999.999 1\n" + TAIL + EOF);
    good(H + INF + "1 # {} 999999999999.999 1\n" + TAIL + EOF);
    String other = two + "\n" + INF + "3\nh_count 3\nh_sum 1\nh_bucket{a=\"\",le=\"1\"} 1";
    fault(Reading.EXEMPLAR, other + " # {} ~1.001 1\n");
    fault(Reading.EXEMPLAR, other + "\nh_bucket{a=\"\",le=\"2\"} 2 # {} ~1 1\n");
  }

  private static void exemplarsOfNoObservation() {
    Check.sentence("or no observation fell to it (its count is that before)");
    String one = H + "h_bucket{le=\"1\"} 1";
    fault(Reading.EXEMPLAR, H + "h_bucket{le=\"1\"} 0 # {} ~0.5 1\n");
    fault(Reading.EXEMPLAR, one + "\nh_bucket{le=\"2\"} 1 # {} ~1.5 1\n");
    fault(Reading.EXEMPLAR, one + "\n" + INF + "1 # {} ~5 1\n");
    fault(Reading.EXEMPLAR, H + INF + "0 # {} ~5 1\n");
    good(one + " # {} 0.5 1\nh_bucket{le=\"2\"} 1\n" + INF + "2 # {} 5 1\nh_count 2\nh_sum 1\n" + EOF);
    String child = one + "\n" + INF + "1\n" + TAIL + "h_bucket{a=\"\",le=\"1\"} ";
    fault(Reading.EXEMPLAR, child + "0 # {} ~1 1\n");
    fault(Reading.EXEMPLAR, child + "2\nh_bucket{a=\"\",le=\"+Inf\"} 2 # {} ~2 1\n");
  }

  private static void exemplarsOfTotals() {
    Check.sentence("for a total below 0");
    String start = A + "a_total 5 # {} ";
    good(start + "0 1\n" + EOF);
    good(start + "-0 1\n" + EOF);
    good(start + "9 1\n" + EOF);
    good(A + "a_total 0 # {} 999999999999.999 1\n" + EOF);
    fault(Reading.EXEMPLAR, start + "~-0.001 1\n");
    fault(Reading.EXEMPLAR, start + "~-1!");
  }

  private static void timesOfExemplars() {
    Check.sentence("a space, a number: VALUE, if below 0.");
    String[] before = {A + "a_total 5 # {} 1 ", H + INF + "1 # {} 1 "};
    for (String text : before) {
      String tail = text.startsWith(A) ? EOF : TAIL + EOF;
      good(text + "0\n" + tail);
      good(text + "-0\n" + tail);
      good(text + "0.001\n" + tail);
      good(text + "999999999999.999\n" + tail);
      fault(Reading.VALUE, text + "~-0.001\n");
      fault(Reading.VALUE, text + "~-1!");
    }
  }

  private static void exemplarsThatWereRead() {
    Check.sentence("An EXEMPLAR: a label set of at most 2 labels");
    MeterSheet x = new MeterSheet();
    String text = A + "a_total 1 # {} 3 4\n" + H + "h_bucket{le=\"1\"} 1\nh_bucket{le=\"2\"} 2 # {b=\"\\n\",c=\"\"} 1.5 0.25\n"
        + INF + "3 # {z=\"1\"} 7 1\nh_count 3\nh_sum 1\n" + EOF;
    Check.due("reading", "0 at -1", Check.read(x, text));
    Check.due("three exemplars", 3, x.look(1, 2));
    long[][] want = {{0, 0, 1, 3000, 4000, 0}, {1, 0, 0, 0, 0, 0}, {1, 1, 1, 1500, 250, 7}, {1, 2, 1, 7000, 1000, 4}};
    for (long[] row : want) {
      for (int what = 2; what < 6; what++) {
        Check.due("bucket " + row[0] + " " + row[1] + " " + what, row[what],
            x.bucket(1, (int) row[0], (int) row[1], what));
      }
    }
    Check.due("as they are written", text, Check.written(x, 1, 0));
  }

  private static void valuesThatAreFoundFirst() {
    Check.sentence("answers 0, or the FAULT that it finds first");
    fault(Reading.VALUE, H + "h_bucket{le=\"1\"} 2\n" + INF + "~1.5\n");
    fault(Reading.VALUE, H + INF + "2\nh_count ~1.5\n");
    fault(Reading.VALUE, H + "h_bucket{le=\"1\"} 2\n" + INF + "~0000000000001\n");
    fault(Reading.BUCKETS, H + "h_bucket{le=\"1\"} 2\nh_bucket{le=\"~1\"}!");
    fault(Reading.BUCKETS, H + "h_bucket{le=\"1\"} 2\nh_bucket{le=\"~1\"} 1\n");
    fault(Reading.VALUE, A + "a_total 1 # {} ~-1.2345 1\n");
    fault(Reading.VALUE, A + "a_total ~-1 # {} -1 1\n");
    fault(Reading.EXEMPLAR, A + "a_total 1 # {} ~-1 -1\n");
    fault(Reading.TWICE, S + "s{s=\"a\"} 1\ns{s=\"~a\"} 2\n");
    fault(Reading.CHILD, S + "s{s=\"a\"} 1\ns{x=\"\",s=\"~b\"} 2\n");
  }
}
