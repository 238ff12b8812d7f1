/** Promises 20 and 21: read, place. In a text ~ stands before the byte at which the fault is told. */
public final class ReadTest {
  private static final int SYNTAX = 1;
  private static final int NAME = 2;
  private static final int KIND = 3;
  private static final int CLASH = 4;
  private static final int ORDER = 5;
  private static final int UNIT = 6;
  private static final int LONG = 7;
  private static final int LABEL = 8;
  private static final int TWICE = 9;
  private static final int CHILD = 10;
  private static final int VALUE = 11;
  private static final int BUCKETS = 12;
  private static final int EXEMPLAR = 13;
  private static final int FULL = 14;

  private static final String A = "# TYPE a counter\n";
  private static final String G = "# TYPE g gauge\n";
  private static final String H = "# TYPE h histogram\n";
  private static final String I = "# TYPE i info\n";
  private static final String S = "# TYPE s stateset\n";
  private static final String INF = "h_bucket{le=\"+Inf\"} ";
  private static final String EOF = "# EOF\n";
  private static final String FORTY = "0123456789012345678901234567890123456789";

  public static void main(String[] args) {
    placeAndTapeBehindReading();
    readingAgain();
    theLastByteOfTexts();
    lines();
    types();
    units();
    helps();
    ends();
    numbers();
    sampleNames();
    labels();
    labelNames();
    childrenTwice();
    childrenThatChange();
    bounds();
    buckets();
    states();
    values();
    exemplars();
    exemplarNumbers();
    tooManyFamilies();
    tooManyChildren();
    theOrderOfFaults();
    Check.end();
  }

  private static void good(String text) {
    Check.due("<" + text + ">", "0 at -1", Check.read(new MeterSheet(), text));
  }

  private static void fault(int fault, String marked) {
    int place = marked.indexOf('~');
    String text = marked.substring(0, place) + marked.substring(place + 1);
    MeterSheet x = new MeterSheet();
    Check.due("<" + marked + ">", fault + " at " + place, Check.read(x, text));
    Check.due("<" + marked + "> leaves nothing", 0, x.look(1, 0) + x.look(1, 1) + x.look(1, 2));
  }

  private static void placeAndTapeBehindReading() {
    MeterSheet x = new MeterSheet();
    Check.due("a fault", "5 at 0", Check.read(x, "a_total 1\n"));
    Check.due("the sheet is empty", 0, x.look(1, 0));
    Check.due("the tape stays", 10, Check.tapeSize(x));
    Check.due("the fault again", 5, x.read());
    Check.due("a good text", "0 at -1", Check.read(x, A + "a_total 1\n" + EOF));
    Check.due("a family", 1, x.look(1, 0));
    Check.due("a child", 1, x.look(1, 1));
    Check.due("the tape stays again", 33, Check.tapeSize(x));
    Check.due("a fault behind a child", "1 at 27", Check.read(x, A + "a_total 1\n"));
    Check.due("the sheet is empty again", 0, x.look(1, 0) + x.look(1, 1));
    Check.dueThrow("no child", Check.NO_ELEMENT, () -> x.childOf(1, 0, 0));
    Check.due("an empty tape", "1 at 0", Check.read(x, ""));
  }

  /** What an earlier text has left behind must not show in the next one. */
  private static void readingAgain() {
    MeterSheet x = new MeterSheet();
    String unit = "# TYPE a_s counter\n# UNIT a_s s\n";
    Check.due("a text that ends behind TYPE", "1 at 17", Check.read(x, A));
    Check.due("no UNIT behind nothing", "5 at 0", Check.read(x, "# UNIT a a\n"));
    Check.due("a text that ends behind UNIT", "1 at 32", Check.read(x, unit));
    Check.due("no HELP behind nothing", "5 at 0", Check.read(x, "# HELP a_s a\n"));
    Check.due("no sample behind nothing", "5 at 0", Check.read(x, "a_s_total 1\n"));
    Check.due("a child that is not whole", "1 at 41", Check.read(x, H + INF + "1\n"));
    Check.due("an end behind nothing", "0 at -1", Check.read(x, EOF));
    for (int k = 0; k < 2; k++) {
      Check.due("states", "0 at -1", Check.read(x, S + "s{s=\"a\"} 1\ns{s=\"b\"} 1\n" + EOF));
      Check.due("two of them", 2, x.familyOf(1, 0, 6));
      Check.due("bounds", "0 at -1", Check.read(x, H + "h_bucket{le=\"1\"} 1 # {a=\"\"} 1 1\n" + INF
          + "1\nh_count 1\nh_sum 1\nh_created 1\n" + EOF));
      Check.due("one of them", 1, x.familyOf(1, 0, 5));
      Check.due("no states", 0, x.familyOf(1, 0, 6));
      Check.due("an info", "0 at -1", Check.read(x, I + "i_info 1\n" + EOF));
      Check.due("without bounds", 0, x.familyOf(1, 0, 5));
      Check.due("without anything", 0, x.childOf(1, 0, 2) + x.childOf(1, 0, 3) + x.childOf(1, 0, 5) + x.look(1, 2));
    }
  }

  private static void theLastByteOfTexts() {
    MeterSheet x = new MeterSheet();
    Check.due("byte 126", "0 at -1", Check.read(x, G + "# HELP g ~ \n" + "g{a=\"~ \"} 1\n" + EOF));
    Check.due("byte 127", "1 at 24", Check.read(x, G + "# HELP g \177\n"));
    Check.due("byte 31", "1 at 20", Check.read(x, G + "g{a=\"\37\"} 1\n"));
  }

  private static void lines() {
    good(EOF);
    fault(SYNTAX, "~");
    fault(SYNTAX, "~\n");
    fault(SYNTAX, "~ # EOF\n");
    fault(SYNTAX, "~{");
    fault(SYNTAX, "~\200");
    fault(SYNTAX, "#~EOF\n");
    fault(SYNTAX, "#~");
    fault(SYNTAX, "# ~");
    fault(SYNTAX, "# ~\n");
    fault(SYNTAX, "# ~EO\n");
    fault(SYNTAX, "# ~EOFX\n");
    fault(SYNTAX, "# ~eof\n");
    fault(SYNTAX, "# ~ EOF\n");
    fault(SYNTAX, "# ~TYPES a counter\n");
    fault(SYNTAX, A + "~");
    fault(SYNTAX, A + "a_total 1~");
    fault(SYNTAX, A + "a_total 1~\r\n");
    fault(SYNTAX, A + "a_total 1\n~\n");
    fault(ORDER, "~a");
    fault(ORDER, "~9 1\n");
    fault(ORDER, "~a_total{");
  }

  private static void ends() {
    fault(SYNTAX, "# EOF~");
    fault(SYNTAX, "# EOF~ \n");
    fault(SYNTAX, EOF + "~" + EOF);
    fault(SYNTAX, EOF + "~\n");
    fault(SYNTAX, A + "a_total 1\n" + EOF + "~a_created 1\n");
    good(A + "a_total 1\n" + EOF);
    fault(ORDER, H + "h_bucket{le=\"1\"} 1\n~# EOF\n");
    fault(ORDER, H + INF + "1\n~# EOF\n");
    fault(ORDER, H + INF + "1\nh_count 1\n~# EOF");
    good(H + INF + "1\nh_count 1\nh_sum 1\n" + EOF);
    good(S + "s{s=\"a\"} 1\n" + EOF);
    fault(ORDER, S + "s{s=\"a\"} 1\ns{s=\"b\"} 1\ns{x=\"\",s=\"a\"} 1\n~# EOF\n");
    fault(ORDER, H + INF + "1\n~# EOFs");
    fault(SYNTAX, H + INF + "1\n# ~EOFS");
    fault(ORDER, H + INF + "1\n~# TYPE\n");
    fault(ORDER, H + INF + "1\n~# TYPE 9 counter\n");
  }

  private static void types() {
    good(A + G + H + I + S + EOF);
    fault(SYNTAX, "# TYPE~");
    fault(SYNTAX, "# TYPE~\n");
    fault(SYNTAX, "# TYPE~a counter\n");
    fault(SYNTAX, "# TYPE a~# EOF\n");
    fault(NAME, "# TYPE ~");
    fault(NAME, "# TYPE ~ counter\n");
    fault(NAME, "# TYPE ~9a counter\n");
    fault(NAME, "# TYPE ~abcdefghijklmnopqrstuvwxy counter\n");
    good("# TYPE abcdefghijklmnopqrstuvwx counter\n" + EOF);
    good("# TYPE :__ counter\n" + EOF);
    fault(SYNTAX, "# TYPE a~-b counter\n");
    fault(SYNTAX, "# TYPE a~\n");
    fault(SYNTAX, "# TYPE a~");
    fault(KIND, "# TYPE a ~");
    fault(KIND, "# TYPE a ~\n");
    fault(KIND, "# TYPE a ~ counter\n");
    fault(KIND, "# TYPE a ~counters\n");
    fault(KIND, "# TYPE a ~count\n");
    fault(KIND, "# TYPE a ~unknown\n");
    fault(KIND, "# TYPE a ~Counter\n");
    fault(SYNTAX, "# TYPE a counter~ \n");
    fault(SYNTAX, "# TYPE a counter~");
    fault(SYNTAX, "# TYPE a counter~9\n");
    fault(CLASH, A + "# TYPE ~a counter\n");
    fault(CLASH, A + "# TYPE ~a_total gauge\n");
    fault(CLASH, A + "# TYPE ~a_created gauge");
    fault(CLASH, G + "# TYPE x gauge\n# TYPE y_bucket gauge\n# TYPE ~y histogram\n");
    fault(CLASH, "# TYPE y_count gauge\n# TYPE ~y histogram\n");
    fault(CLASH, "# TYPE y_sum gauge\n# TYPE ~y histogram\n");
    fault(CLASH, "# TYPE y_created gauge\n# TYPE ~y histogram\n");
    fault(CLASH, "# TYPE y_info gauge\n# TYPE ~y info\n");
    good("# TYPE y_info gauge\n# TYPE y counter\n# TYPE y_sum stateset\n" + EOF);
  }

  private static void units() {
    String b = "# TYPE b_s counter\n";
    good(b + "# UNIT b_s s\n" + EOF);
    good(b + "# UNIT b_s s\n# HELP b_s h\nb_s_total 1\n" + EOF);
    fault(ORDER, "~# UNIT b_s s\n");
    fault(ORDER, b + "# UNIT b_s s\n~# UNIT b_s s\n");
    fault(ORDER, b + "# HELP b_s s\n~# UNIT b_s s\n");
    fault(ORDER, b + "b_s_total 1\n~# UNIT b_s s\n");
    fault(SYNTAX, b + "# UNIT~");
    fault(SYNTAX, b + "# UNIT~b_s s\n");
    fault(NAME, b + "# UNIT ~");
    fault(NAME, b + "# UNIT ~ s\n");
    fault(NAME, b + "# UNIT ~b s\n");
    fault(NAME, b + "# UNIT ~b_s_total s\n");
    fault(SYNTAX, b + "# UNIT b_s~\n");
    fault(SYNTAX, b + "# UNIT b_s ~\n");
    fault(SYNTAX, b + "# UNIT b_s ~S\n");
    fault(SYNTAX, b + "# UNIT b_s s~ \n");
    fault(SYNTAX, b + "# UNIT b_s s~");
    fault(UNIT, b + "# UNIT b_s ~t\n");
    fault(UNIT, b + "# UNIT b_s ~_s\n");
    fault(UNIT, b + "# UNIT b_s ~b_s\n");
    fault(UNIT, b + "# UNIT b_s ~tA\n");
    fault(UNIT, "# TYPE _s counter\n# UNIT _s ~s\n");
    fault(UNIT, "# TYPE b_s info\n# UNIT b_s ~s\n");
    fault(UNIT, "# TYPE b_s stateset\n# UNIT b_s ~s\n");
    fault(UNIT, "# TYPE b_123456789 gauge\n# UNIT b_123456789 ~123456789\n");
    good("# TYPE b_12345678 histogram\n# UNIT b_12345678 12345678\n" + EOF);
  }

  private static void helps() {
    good(A + "# HELP a it's {all} so # \\n\\\"\\\\\n" + EOF);
    fault(ORDER, "~# HELP a s\n");
    fault(ORDER, A + "# HELP a s\n~# HELP a s\n");
    fault(ORDER, "# TYPE b_s counter\n# UNIT b_s s\n# HELP b_s s\n~# HELP b_s s\n");
    fault(ORDER, "# TYPE b_s counter\n# UNIT b_s s\nb_s_total 1\n~# HELP b_s s\n");
    fault(ORDER, A + "a_total 1\n~# HELP a s\n");
    fault(SYNTAX, A + "# HELP~\n");
    fault(NAME, A + "# HELP ~a_total s\n");
    fault(NAME, A + G + "# HELP ~a s\n");
    fault(SYNTAX, A + "# HELP a~\n");
    fault(SYNTAX, A + "# HELP a ~\n");
    fault(SYNTAX, A + "# HELP a ~");
    fault(SYNTAX, A + "# HELP a b~");
    fault(SYNTAX, A + "# HELP a b~\"c\n");
    fault(SYNTAX, A + "# HELP a b~\t\n");
    fault(SYNTAX, A + "# HELP a b~\177\n");
    fault(SYNTAX, A + "# HELP a b~\377\n");
    fault(SYNTAX, A + "# HELP a b\\~x\n");
    fault(SYNTAX, A + "# HELP a b\\~\n");
    fault(SYNTAX, A + "# HELP a b\\~");
    good(A + "# HELP a " + FORTY + "\n" + EOF);
    good(A + "# HELP a " + FORTY.substring(3) + "\\n\\n\\n\n" + EOF);
    fault(LONG, A + "# HELP a ~" + FORTY + "0\n");
    fault(LONG, A + "# HELP a ~" + FORTY + "\\n\n");
    fault(SYNTAX, A + "# HELP a " + FORTY + "0~");
    fault(SYNTAX, A + "# HELP a " + FORTY + "0~\"\n");
  }

  private static void numbers() {
    for (String number : new String[] {"0", "-0", "007", "1.5", "-1.500", "999999999999.999", "-000000000000.000"}) {
      good(G + "g " + number + "\n" + EOF);
    }
    fault(SYNTAX, G + "g ~");
    fault(SYNTAX, G + "g ~\n");
    fault(SYNTAX, G + "g ~+1\n");
    fault(SYNTAX, G + "g -~\n");
    fault(SYNTAX, G + "g -~-1\n");
    fault(SYNTAX, G + "g ~.5\n");
    fault(SYNTAX, G + "g 1.~\n");
    fault(SYNTAX, G + "g 1.~");
    fault(SYNTAX, G + "g 1.5~.5\n");
    fault(SYNTAX, G + "g 1~e5\n");
    fault(SYNTAX, G + "g ~NaN\n");
    fault(SYNTAX, G + "g ~ 1\n");
    fault(VALUE, G + "g ~1234567890123\n");
    fault(VALUE, G + "g ~0000000000000");
    fault(VALUE, G + "g ~-1234567890123x");
    fault(VALUE, G + "g ~1.0000\n");
    fault(VALUE, G + "g ~1234567890123.0000\n");
    fault(SYNTAX, G + "g 1234567890123.~x\n");
    MeterSheet x = new MeterSheet();
    Check.read(x, G + "g -012.050\n" + EOF);
    Check.due("its thousandths", -12050, x.childOf(1, 0, 2));
    Check.read(x, G + "g 999999999999.9\n" + EOF);
    Check.due("many of them", 999999999999900L, x.childOf(1, 0, 2));
  }

  private static void sampleNames() {
    fault(NAME, A + "~a 1\n");
    fault(NAME, A + "~a_created 1\n");
    fault(NAME, A + "~a_totals 1\n");
    fault(NAME, A + "~9 1\n");
    fault(NAME, A + "a_total 1\na_created 1\n~a_created 1\n");
    fault(NAME, A + "a_total 1\n# TYPE b counter\n~b_created 1\n");
    fault(NAME, A + "a_total 1\n# TYPE b counter\n~a_created 1\n");
    good(A + "a_total 1\na_created 1\na_total{x=\"\"} 1\na_total{y=\"\"} 1\na_created{y=\"\"} 1\n" + EOF);
    fault(NAME, G + "g 1\n~g_created 1\n");
    fault(NAME, G + "~g_total 1\n");
    fault(NAME, A + G + "~a_total 1\n");
    fault(NAME, I + "~i 1\n");
    fault(NAME, I + "i_info 1\n~i_created 1\n");
    fault(NAME, H + "~h 1\n");
    fault(NAME, H + "~h_count 1\n");
    fault(NAME, H + "h_bucket{le=\"1\"} 1\n~h_count 1\n");
    fault(NAME, H + INF + "1\n~h_bucket{le=\"+Inf\"} 1\n");
    fault(NAME, H + INF + "1\n~h_sum 1\n");
    fault(NAME, H + INF + "1\nh_count 1\n~h_bucket 1\n");
    fault(NAME, H + INF + "1\nh_count 1\n~h_created 1\n");
    fault(NAME, H + INF + "1\nh_count 1\nh_sum 1\n~h_count 1\n");
    fault(NAME, H + INF + "1\nh_count 1\nh_sum 1\nh_created 1\n~h_created 1\n");
    good(H + INF + "1\nh_count 1\nh_sum 1\nh_created 1\nh_bucket{a=\"\",le=\"+Inf\"} 0\nh_count{a=\"\"} 0\n"
        + "h_sum{a=\"\"} -1\n" + EOF);
    fault(NAME, S + "~s_created 1\n");
    fault(NAME, S + "s{s=\"a\"} 1\n~s_total 1\n");
  }

  private static void labels() {
    good(G + "g{a=\"x y,}\",b=\"\",c=\"\\\\\\\"\\n\"} 1\n" + EOF);
    fault(SYNTAX, G + "g~");
    fault(SYNTAX, G + "g~!");
    fault(SYNTAX, G + "g{~");
    fault(SYNTAX, G + "g{~} 1\n");
    fault(SYNTAX, G + "g{~,} 1\n");
    fault(SYNTAX, G + "g{~=\"\"} 1\n");
    fault(SYNTAX, G + "g{a~} 1\n");
    fault(SYNTAX, G + "g{a=~1} 1\n");
    fault(SYNTAX, G + "g{a=\"1~");
    fault(SYNTAX, G + "g{a=\"1~\n");
    fault(SYNTAX, G + "g{a=\"\\~t\"} 1\n");
    fault(SYNTAX, G + "g{a=\"\"~");
    fault(SYNTAX, G + "g{a=\"\"~ } 1\n");
    fault(SYNTAX, G + "g{a=\"\",~} 1\n");
    fault(SYNTAX, G + "g{a=\"\",~ b=\"\"} 1\n");
    fault(SYNTAX, G + "g{a=\"\"}~1\n");
    fault(SYNTAX, G + "g{a=\"\"}~\n" + EOF);
    fault(SYNTAX, G + "g{a=\"\"}~{} 1\n");
    good(G + "g{a=\"123456789012\"} 1\n" + EOF);
    good(G + "g{a=\"12345678901\\n\"} 1\n" + EOF);
    fault(LONG, G + "g{a=\"~1234567890123\"} 1\n");
    fault(LONG, G + "g{a=\"~123456789012\\n\"!");
    fault(SYNTAX, G + "g{a=\"1234567890123~");
    fault(LONG, G + "g{a=\"\",b=\"~1234567890123\"} 1\n");
    fault(LONG, S + "s{s=\"~1234567890123\"} 1\n");
  }

  private static void labelNames() {
    fault(LABEL, G + "g{~9=\"\"} 1\n");
    fault(LABEL, G + "g{~a:=\"\"} 1\n");
    fault(LABEL, G + "g{~__=\"\"} 1\n");
    fault(LABEL, G + "g{~__a=\"\"} 1\n");
    fault(LABEL, G + "g{~abcdefghi=\"\"} 1\n");
    good(G + "g{_=\"\",_a_=\"\",abcdefgh=\"\"} 1\n" + EOF);
    fault(LABEL, G + "g{b=\"\",~a=\"\"} 1\n");
    fault(LABEL, G + "g{a=\"\",~a=\"\"} 1\n");
    fault(LABEL, G + "g{ab=\"\",~a=\"\"} 1\n");
    good(G + "g{Z=\"\",a=\"\",ab=\"\"} 1\n" + EOF);
    fault(LABEL, G + "g{a=\"\",b=\"\",c=\"\",~d=\"\"} 1\n");
    fault(SYNTAX, G + "g{a=\"\",b=\"\",c=\"\",~");
    good(H + "h_bucket{a=\"\",b=\"\",z=\"\",le=\"+Inf\"} 1\nh_count{a=\"\",b=\"\",z=\"\"} 1\n"
        + "h_sum{a=\"\",b=\"\",z=\"\"} 1\n" + EOF);
    fault(SYNTAX, H + "h_bucket{a=\"\",b=\"\",c=\"\",le=\"+Inf\",~");
    fault(LABEL, H + "h_bucket{a=\"\",b=\"\",c=\"\",le=\"+Inf\",~d=\"\"} 1\n");
    fault(LABEL, H + "h_bucket{le=\"+Inf\",~z=\"\"} 1\n");
    fault(LABEL, H + "h_bucket{le=\"+Inf\",~le=\"+Inf\"} 1\n");
    fault(LABEL, H + "h_bucket{a=\"\",b=\"\",c=\"\",~d=\"\",le=\"+Inf\"} 1\n");
    fault(LABEL, H + "~h_bucket 1\n");
    fault(LABEL, H + "~h_bucket!");
    fault(LABEL, H + "~h_bucket{a=\"\"} 1\n");
    fault(LABEL, S + "~s 1\n");
    fault(LABEL, S + "~s{le=\"\"} 1\n");
    fault(LABEL, S + "s{s=\"\",~z=\"\"} 1\n");
    fault(LABEL, S + "s{s=\"\",~s=\"\"} 1\n");
    good("# TYPE __a:long_name_24_bytes_x stateset\n__a:long_name_24_bytes_x{__a:long_name_24_bytes_x=\"\"} 1\n" + EOF);
    good(G + "g{g=\"\",le=\"\"} 1\n" + EOF);
    fault(LABEL, "# TYPE g:g gauge\ng:g{~g:g=\"\"} 1\n");
    fault(LONG, H + "h_bucket{le=\"~123456789012345678901\"} 1\n");
    fault(VALUE, H + "h_bucket{le=\"~12345678901234567890\"} 1\n");
    fault(LONG, H + "h_bucket{le=\"1\",le=\"~1234567890123\"} 1\n");
    fault(LONG, H + INF + "1\nh_count{le=\"~1234567890123\"} 1\n");
    fault(LONG, G + "g{9=\"~1234567890123\"} 1\n");
  }

  private static void childrenTwice() {
    fault(TWICE, A + "a_total 1\n~a_total 1\n");
    fault(TWICE, A + "a_total 1\na_created 1\n~a_total!");
    fault(TWICE, G + "g{a=\"\"} 1\ng 1\n~g{a=\"\"} 1\n");
    good(G + "g{a=\"\"} 1\ng{b=\"\"} 1\ng{a=\"x\"} 1\ng{a=\"\",b=\"\"} 1\n# TYPE k gauge\nk{a=\"\"} 1\n" + EOF);
    fault(TWICE, I + "i_info 1\n~i_info 1\n");
    fault(TWICE, H + INF + "1\nh_count 1\nh_sum 1\n~h_bucket{le=\"7\"} 1\n");
    fault(TWICE, S + "s{s=\"a\"} 1\ns{x=\"\",s=\"a\"} 1\n~s{s=\"a\"} 1\n");
  }

  private static void childrenThatChange() {
    fault(CHILD, A + "a_total 1\n~a_created{a=\"\"} 1\n");
    fault(CHILD, A + "a_total{a=\"\"} 1\n~a_created 1\n");
    fault(CHILD, A + "a_total{a=\"\"} 1\n~a_created!");
    fault(CHILD, A + "a_total{a=\"\"} 1\n~a_created{a=\"b\"} 1\n");
    fault(CHILD, H + "h_bucket{le=\"1\"} 1\n~h_bucket{a=\"\",le=\"2\"} 1\n");
    fault(CHILD, H + "h_bucket{le=\"1\"} 1\n~h_bucket{a=\"\",le=\"x\"} 1\n");
    fault(CHILD, H + INF + "1\n~h_count{a=\"\"} 1\n");
    fault(CHILD, H + INF + "1\n~h_count{le=\"+Inf\"} 1\n");
    fault(CHILD, H + INF + "1\nh_count 1\n~h_sum{le=\"\"} 1\n");
    fault(CHILD, H + INF + "1\nh_count 1\nh_sum 1\n~h_created{le=\"1\"} 1\n");
    fault(CHILD, S + "s{s=\"a\"} 1\ns{s=\"b\"} 1\ns{x=\"\",s=\"a\"} 1\n~s{y=\"\",s=\"b\"} 1\n");
  }

  private static void bounds() {
    String tail = "h_count 1\nh_sum 1\n";
    good(H + "h_bucket{le=\"-1.5\"} 0\nh_bucket{le=\"0\"} 0\nh_bucket{le=\"0.001\"} 1\n" + INF + "1\n" + tail + EOF);
    good(H + "h_bucket{le=\"-999999999999.999\"} 0\nh_bucket{le=\"999999999999.999\"} 0\n" + INF + "1\n" + tail + EOF);
    for (String wrong : new String[] {"", "1.0", "01", "-0", "0.", ".5", "1.50", "1.2345", "+1", "Inf", "-Inf", "+inf",
        "+Inf ", " 1", "1 ", "1\\n", "1e3", "1234567890123", "0.0", "-", "--1"}) {
      fault(VALUE, H + "h_bucket{le=\"~" + wrong + "\"} 1\n");
    }
    fault(BUCKETS, H + "h_bucket{le=\"1\"} 1\nh_bucket{le=\"~1\"} 1\n");
    fault(BUCKETS, H + "h_bucket{le=\"1\"} 1\nh_bucket{le=\"~-1\"} 1\n");
    StringBuilder six = new StringBuilder(H);
    for (int k = 1; k <= 6; k++) {
      six.append("h_bucket{le=\"").append(k).append("\"} 1\n");
    }
    good(six + INF + "1\n" + tail + EOF);
    fault(BUCKETS, six + "h_bucket{le=\"~7\"} 1\n");
    fault(BUCKETS, six + "h_bucket{le=\"~6\"} 1\n");
    String first = H + "h_bucket{le=\"1\"} 1\nh_bucket{le=\"2\"} 1\n" + INF + "1\n" + tail + "h_bucket{a=\"\",le=\"";
    String second = "1\"} 1\nh_bucket{a=\"\",le=\"";
    good(first + second + "2\"} 1\nh_bucket{a=\"\",le=\"+Inf\"} 1\nh_count{a=\"\"} 1\nh_sum{a=\"\"} 1\n" + EOF);
    fault(BUCKETS, first + "~0\"} 1\n");
    fault(BUCKETS, first + "~2\"} 1\n");
    fault(BUCKETS, first + "~+Inf\"} 1\n");
    fault(BUCKETS, first + second + "~1.5\"} 1\n");
    fault(BUCKETS, first + second + "~+Inf\"} 1\n");
    fault(BUCKETS, first + second + "2\"} 1\nh_bucket{a=\"\",le=\"~3\"} 1\n");
    fault(VALUE, first + "~x\"} 1\n");
  }

  private static void buckets() {
    fault(BUCKETS, H + "h_bucket{le=\"1\"} 2\n" + INF + "~1\n");
    fault(BUCKETS, H + "h_bucket{le=\"1\"} 2\n" + INF + "~1x");
    fault(BUCKETS, H + INF + "2\nh_count ~1\n");
    fault(BUCKETS, H + INF + "2\nh_count ~3\n");
    fault(VALUE, H + INF + "~0.5\n");
    fault(VALUE, H + INF + "~-1\n");
    fault(VALUE, H + INF + "2\nh_count ~2.5\n");
    fault(VALUE, H + INF + "2\nh_count ~-2\n");
    good(H + INF + "002.000\nh_count 2.0\nh_sum -5\n" + EOF);
    good(H + INF + "999999999999\nh_count 999999999999\nh_sum 0\n" + EOF);
    MeterSheet x = new MeterSheet();
    Check.read(x, H + "h_bucket{le=\"1\"} 2\nh_bucket{le=\"3\"} 2\n" + INF + "7\nh_count 7\nh_sum 9.5\nh_created 0\n"
        + "h_bucket{a=\"\",le=\"1\"} 0\nh_bucket{a=\"\",le=\"3\"} 1\nh_bucket{a=\"\",le=\"+Inf\"} 1\nh_count{a=\"\"} 1\n"
        + "h_sum{a=\"\"} 2\n" + EOF);
    Check.due("fell to 1", 2, x.bucket(1, 0, 0, 1));
    Check.due("fell to 3", 0, x.bucket(1, 0, 1, 1));
    Check.due("fell beyond", 5, x.bucket(1, 0, 2, 1));
    Check.due("of the other: to 1", 0, x.bucket(1, 1, 0, 1));
    Check.due("of the other: to 3", 1, x.bucket(1, 1, 1, 1));
    Check.due("in all", 7, x.childOf(1, 0, 3));
  }

  private static void states() {
    good(S + "s{s=\"\"} 1\ns{s=\"a\"} 0\ns{s=\"b\"} 1.0\ns{s=\"c\"} 0\n" + EOF);
    good(S + "s{s=\"a\"} 1\ns{s=\"b\"} 1\ns{x=\"\",s=\"a\"} 0\ns{x=\"\",s=\"b\"} 0\ns{y=\"\",s=\"a\"} 0\ns{y=\"\",s=\"b\"} 0\n"
        + "# TYPE t stateset\nt{t=\"z\"} 1\n" + EOF);
    fault(TWICE, S + "s{s=\"a\"} 1\ns{s=\"~a\"} 1\n");
    fault(FULL, S + "s{s=\"\"} 1\ns{s=\"a\"} 0\ns{s=\"b\"} 1\ns{s=\"c\"} 0\ns{s=\"~d\"} 0\n");
    fault(TWICE, S + "s{s=\"\"} 1\ns{s=\"a\"} 0\ns{s=\"b\"} 1\ns{s=\"c\"} 0\ns{s=\"~\"} 0\n");
    String two = S + "s{s=\"a\"} 1\ns{s=\"b\"} 1\ns{x=\"\",s=\"";
    fault(CHILD, two + "~b\"} 1\n");
    fault(CHILD, two + "~c\"} 1\n");
    fault(TWICE, two + "a\"} 1\ns{x=\"\",s=\"~a\"} 1\n");
    fault(CHILD, two + "a\"} 1\ns{x=\"\",s=\"~c\"} 1\n");
    fault(TWICE, two + "a\"} 1\ns{x=\"\",s=\"b\"} 1\n~s{x=\"\",s=\"c\"} 1\n");
    fault(VALUE, S + "s{s=\"a\"} ~2\n");
    fault(VALUE, S + "s{s=\"a\"} ~0.5\n");
    fault(VALUE, S + "s{s=\"a\"} ~-1\n");
    MeterSheet x = new MeterSheet();
    Check.read(x, two + "a\"} 0\ns{x=\"\",s=\"b\"} 1\n" + EOF);
    Check.due("both are on", 3, x.childOf(1, 0, 5));
    Check.due("the second is on", 2, x.childOf(1, 1, 5));
    Check.due("two states", 2, x.familyOf(1, 0, 6));
  }

  private static void values() {
    fault(VALUE, A + "a_total ~-1\n");
    fault(VALUE, A + "a_total ~-0.001!");
    good(A + "a_total -0\na_created -0.0\n" + EOF);
    fault(VALUE, A + "a_total 1\na_created ~-1\n");
    good(A + "a_total 0.001\na_created 0.001\n" + EOF);
    fault(VALUE, H + INF + "1\nh_count 1\nh_sum 1\nh_created ~-1\n");
    fault(VALUE, I + "i_info ~0\n");
    fault(VALUE, I + "i_info ~1.001\n");
    good(I + "i_info 01.000\n" + EOF);
    fault(SYNTAX, A + "a_total 1\na_created 1~ # {} 1 1\n");
    fault(SYNTAX, G + "g 1~ # {} 1 1\n");
    fault(SYNTAX, I + "i_info 1~ \n");
    fault(SYNTAX, H + INF + "1\nh_count 1~ # {} 1 1\n");
  }

  private static void exemplars() {
    String start = A + "a_total 5 # ";
    good(start + "{} 1 1\n" + EOF);
    good(start + "{a=\"\",le=\"123456789012\"} 9 0\na_created 1\n" + EOF);
    good(start + "{abcdefgh=\"123456789012\",abcdefgi=\"123456789012\"} 9 0\n" + EOF);
    fault(SYNTAX, A + "a_total 5 ~\n");
    fault(SYNTAX, A + "a_total 5 ~1\n");
    fault(SYNTAX, A + "a_total 5 #~{} 1 1\n");
    fault(SYNTAX, start + "~1 1\n");
    fault(SYNTAX, start + "{~,} 1 1\n");
    fault(SYNTAX, start + "{~ } 1 1\n");
    fault(SYNTAX, start + "{a=\"\",~} 1 1\n");
    fault(SYNTAX, start + "{a=\"\"~;} 1 1\n");
    fault(LONG, start + "{a=\"~1234567890123\"} 1 1\n");
    fault(LONG, H + INF + "1 # {le=\"~1234567890123\"} 1 1\n");
    good(H + INF + "1 # {le=\"\",z=\"\"} 1 1\nh_count 1\nh_sum 1\n" + EOF);
    fault(LABEL, start + "{~9=\"\"} 1 1\n");
    fault(LABEL, start + "{~__a=\"\"} 1 1\n");
    fault(LABEL, start + "{b=\"\",~a=\"\"} 1 1\n");
    fault(LABEL, start + "{a=\"\",~a=\"\"} 1 1\n");
    fault(LABEL, start + "{a=\"\",b=\"\",~c=\"\"} 1 1\n");
    fault(SYNTAX, start + "{}~1 1\n");
    fault(SYNTAX, start + "{} ~x\n");
    fault(SYNTAX, start + "{} 1~\n");
    fault(SYNTAX, start + "{}~\n" + EOF);
    fault(SYNTAX, start + "{} 1~\n" + EOF);
    fault(SYNTAX, start + "~\n" + EOF);
    fault(SYNTAX, start + "{} 1 ~\n");
    fault(SYNTAX, start + "{} 1 1~ \n");
    fault(SYNTAX, start + "{} 1 1~");
  }

  private static void exemplarNumbers() {
    String start = A + "a_total 5 # {} ";
    fault(EXEMPLAR, start + "~-1 1\n");
    fault(EXEMPLAR, start + "~-1!");
    good(start + "-0 1\n" + EOF);
    fault(VALUE, start + "~1.2345 1\n");
    fault(VALUE, start + "~-1234567890123 1\n");
    fault(VALUE, start + "1 ~-1\n");
    fault(VALUE, start + "1 ~1.2345\n");
    String one = H + "h_bucket{le=\"1\"} 1";
    String two = one + "\nh_bucket{le=\"2\"} 2";
    String all = two + "\n" + INF + "3";
    String tail = "\nh_count 3\nh_sum 1\n" + EOF;
    good(one + " # {} -5 1\nh_bucket{le=\"2\"} 2 # {} 1.001 1\n" + INF + "3 # {} 2.001 1" + tail);
    good(one + " # {} 1 1\nh_bucket{le=\"2\"} 2 # {} 2 1\n" + INF + "3 # {} 999999999999.999 1" + tail);
    fault(EXEMPLAR, one + " # {} ~1.001 1\n");
    fault(EXEMPLAR, two + " # {} ~1 1\n");
    fault(EXEMPLAR, two + " # {} ~2.001 1\n");
    fault(EXEMPLAR, all + " # {} ~2 1\n");
    fault(EXEMPLAR, H + "h_bucket{le=\"1\"} 0 # {} ~0.5 1\n");
    fault(EXEMPLAR, one + "\nh_bucket{le=\"2\"} 1 # {} ~1.5 1\n");
    fault(EXEMPLAR, two + "\n" + INF + "2 # {} ~5 1\n");
    fault(EXEMPLAR, H + INF + "0 # {} ~5 1\n");
    good(H + INF + "1 # {} -5 1\nh_count 1\nh_sum 1\n" + EOF);
    MeterSheet x = new MeterSheet();
    Check.read(x, two + " # {b=\"\\n\",c=\"\"} 1.5 0.25\n" + INF + "3" + tail);
    Check.due("one exemplar", 1, x.look(1, 2));
    Check.due("it is there", 1, x.bucket(1, 0, 1, 2));
    Check.due("its number", 1500, x.bucket(1, 0, 1, 3));
    Check.due("its time", 250, x.bucket(1, 0, 1, 4));
    Check.due("its bytes", 7, x.bucket(1, 0, 1, 5));
  }

  private static void tooManyFamilies() {
    StringBuilder eight = new StringBuilder();
    for (int k = 0; k < 8; k++) {
      eight.append("# TYPE f").append(k).append(" gauge\n");
    }
    good(eight + EOF);
    fault(FULL, eight + "# TYPE ~f8 gauge\n");
    fault(FULL, eight + "# TYPE ~f7 x\n");
    fault(FULL, eight + "# TYPE ~f7");
    fault(NAME, eight + "# TYPE ~8 gauge\n");
  }

  private static void tooManyChildren() {
    StringBuilder many = new StringBuilder(S + "s{s=\"\"} 1\n" + G);
    for (int k = 1; k < 24; k++) {
      many.append("g{k=\"").append(k).append("\"} 1\n");
    }
    good(many + EOF);
    fault(FULL, many + "~g 1\n");
    fault(FULL, many + "~g!");
    fault(TWICE, many + "~g{k=\"1\"} 1\n");
    fault(FULL, many + "# TYPE t stateset\n~t{t=\"x\"} 2\n");
    StringBuilder sets = new StringBuilder(G);
    for (int k = 1; k < 24; k++) {
      sets.append("g{k=\"").append(k).append("\"} 1\n");
    }
    good(sets + S + "s{s=\"a\"} 1\ns{s=\"b\"} 1\n" + EOF);
    fault(FULL, sets + S + "s{s=\"a\"} 1\ns{s=\"b\"} 1\n~s{x=\"\",s=\"a\"} 1\n");
  }

  private static void theOrderOfFaults() {
    fault(LABEL, H + INF + "1\nh_count 1\nh_sum 1\n~h_bucket 1\n");
    fault(TWICE, H + INF + "1\nh_count 1\nh_sum 1\n~h_bucket{le=\"x\"} 1\n");
    fault(LABEL, G + "g 1\ng{~9=\"\"} 1\n");
    fault(SYNTAX, G + "g 1\ng{a=\"\"~ } 1\n");
    fault(TWICE, G + "g 1\n~g x\n");
    fault(VALUE, H + "h_bucket{le=\"1\"} 2\n" + INF + "~1.5\n");
    fault(BUCKETS, H + "h_bucket{le=\"1\"} 2\nh_bucket{le=\"~1\"}!");
    fault(KIND, A + "# TYPE a ~x\n");
    fault(NAME, A + "# TYPE ~9 x\n");
  }
}
