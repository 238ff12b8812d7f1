/** Promises 20 and 21, of reading: the names of samples, their labels, and the children that they are of. */
public final class ReadLabelTest {
  private static final String A = Reading.A;
  private static final String G = Reading.G;
  private static final String H = Reading.H;
  private static final String I = Reading.I;
  private static final String S = Reading.S;
  private static final String INF = Reading.INF;
  private static final String EOF = Reading.EOF;

  public static void main(String[] args) {
    namesThatAreDue();
    namesOfNewChildren();
    namesOfCreation();
    namesOfHistograms();
    namesOfOtherFamilies();
    bytesOfLabels();
    labelsWithCommasBetween();
    emptyNames();
    longValues();
    longBounds();
    labelNames();
    labelNameBytes();
    labelsThatRise();
    labelsBehindTheOneMore();
    fourLabels();
    labelsWhenTheirValueIsRead();
    oneMoreThatIsNotThere();
    oneMoreOfAnyName();
    childrenTwice();
    twentyFourChildren();
    childrenThatChange();
    labelLeBehindOthers();
    firstChildOfAStateset();
    otherChildrenOfAStateset();
    samplesThatAreFoundFirst();
    Check.end();
  }

  private static void good(String text) {
    Reading.good(text);
  }

  private static void fault(int fault, String marked) {
    Reading.fault(fault, marked);
  }

  private static void namesThatAreDue() {
    Check.sentence("Behind a child that is not whole its next sample is DUE");
    String one = H + "h_bucket{le=\"1\"} 1\n";
    for (String wrong : new String[] {"h", "h_count", "h_sum", "h_created", "h_total", "h_info", "h_buckets", "h_bucke", "b", "9"}) {
      fault(Reading.NAME, one + "~" + wrong + " 1\n");
      fault(Reading.NAME, one + "~" + wrong);
    }
    for (String wrong : new String[] {"h", "h_bucket", "h_sum", "h_created", "h_counts", "h_coun"}) {
      fault(Reading.NAME, H + INF + "1\n~" + wrong + "{le=\"+Inf\"} 1\n");
    }
    for (String wrong : new String[] {"h", "h_bucket", "h_count", "h_created", "h_sums", "h_su"}) {
      fault(Reading.NAME, H + INF + "1\nh_count 1\n~" + wrong + "{le=\"+Inf\"} 1\n");
    }
    String two = S + "s{s=\"a\"} 1\ns{s=\"b\"} 1\ns{x=\"\",s=\"a\"} 1\n";
    for (String wrong : new String[] {"ss", "s_created", "t", "s_s"}) {
      fault(Reading.NAME, two + "~" + wrong + "{x=\"\",s=\"b\"} 1\n");
    }
    good(two + "s{x=\"\",s=\"b\"} 1\n" + EOF);
  }

  private static void namesOfNewChildren() {
    Check.sentence("behind a whole one that of a new child (or name_created, behind name_total or name_sum): NAME, if it is "
        + "none of these.");
    String[][] heads = {{A, "a_total"}, {G, "g"}, {H, "h_bucket"}, {I, "i_info"}, {S, "s"}};
    for (String[] head : heads) {
      String name = head[0].substring(7, 8);
      for (String end : new String[] {"", "_total", "_created", "_bucket", "_count", "_sum", "_info", "_x", "x"}) {
        if (!head[1].equals(name + end)) {
          fault(Reading.NAME, head[0] + "~" + name + end + " 1\n");
          fault(Reading.NAME, head[0] + "# HELP " + name + " x\n~" + name + end + "{");
        }
      }
      fault(Reading.NAME, head[0] + "~9 1\n");
      fault(Reading.NAME, head[0] + "~" + name.toUpperCase() + head[1].substring(1) + " 1\n");
    }
    fault(Reading.NAME, G + "g 1\n~g_created 1\n");
    fault(Reading.NAME, I + "i_info 1\n~i_created 1\n");
    fault(Reading.NAME, I + "i_info 1\n~i 1\n");
    fault(Reading.NAME, S + "s{s=\"a\"} 1\n~s_created 1\n");
    fault(Reading.NAME, S + "s{s=\"a\"} 1\n~s_total 1\n");
  }

  private static void namesOfCreation() {
    Check.sentence("behind a whole one that of a new child (or name_created, behind name_total or name_sum): NAME, if it is "
        + "none of these.");
    fault(Reading.NAME, A + "~a_created 1\n");
    fault(Reading.NAME, A + "a_total 1\na_created 1\n~a_created 1\n");
    fault(Reading.NAME, A + "a_total 1\n~a_sum 1\n");
    fault(Reading.NAME, A + "a_total 1\n~a 1\n");
    fault(Reading.NAME, A + "a_total 1\n# TYPE b counter\n~b_created 1\n");
    fault(Reading.NAME, A + "a_total 1\n# TYPE b counter\n~a_created 1\n");
    fault(Reading.NAME, A + "a_total 1\n" + H + "~h_created 1\n");
    good(A + "a_total 1\na_created 1\na_total{x=\"\"} 1\na_total{y=\"\"} 1\na_created{y=\"\"} 1\n" + EOF);
    String sum = H + INF + "1\nh_count 1\nh_sum 1\n";
    fault(Reading.NAME, sum + "h_created 1\n~h_created 1\n");
    fault(Reading.NAME, sum + "~h_count 1\n");
    fault(Reading.NAME, sum + "h_created 1\n~h_sum 1\n");
    good(sum + "h_created 1\nh_bucket{a=\"\",le=\"+Inf\"} 0\nh_count{a=\"\"} 0\nh_sum{a=\"\"} -1\n" + EOF);
  }

  private static void namesOfHistograms() {
    Check.sentence("A HISTOGRAM's samples begin with name_bucket, up to that of +Inf.");
    for (int bounds = 0; bounds <= 6; bounds++) {
      StringBuilder text = new StringBuilder(H);
      for (int b = 1; b <= bounds; b++) {
        text.append("h_bucket{le=\"").append(b).append("\"} 1\n");
        fault(Reading.NAME, text + "~h_count 1\n");
      }
      good(text + INF + "1\nh_count 1\nh_sum 1\n" + EOF);
      fault(Reading.NAME, text + INF + "1\n~h_bucket{le=\"99\"} 1\n");
    }
  }

  private static void namesOfOtherFamilies() {
    Check.sentence("Otherwise a run of bytes of names, a sample's (ORDER, if there is no family).");
    fault(Reading.NAME, A + G + "~a_total 1\n");
    fault(Reading.NAME, G + "g 1\n" + A + "~g 1\n");
    good(G + A + "a_total 1\n# TYPE b info\n" + EOF);
    String most = "abcdefghijklmnopqrstuvwx";
    good("# TYPE " + most + " counter\n" + most + "_total 1\n" + most + "_created 1\n" + EOF);
    fault(Reading.NAME, "# TYPE " + most + " counter\n~" + most + "x_total 1\n");
    good("# TYPE a_total gauge\na_total 1\n" + EOF);
    good("# TYPE a_total counter\na_total_total 1\na_total_created 1\n" + EOF);
  }

  private static void bytesOfLabels() {
    Check.sentence("1 SYNTAX: a byte that is not one that may stand there (place: that byte).");
    Reading.only(G + "g", "{ ", Reading.NAMES, "a=\"\"} 1\n");
    Reading.only(G + "g{", Reading.NAMES, "", "");
    Reading.only(G + "g{a", "=" + Reading.NAMES, "", "\"\"} 1\n");
    Reading.only(G + "g{a=", "\"", "", "\"} 1\n");
    Reading.only(G + "g{a=\"\"", ",}", "", "b=\"\"} 1\n");
    Reading.only(G + "g{a=\"\",", Reading.NAMES, "", "");
    Reading.only(G + "g{a=\"\"}", " ", "", "1\n");
    Reading.only(H + "h_bucket{le=\"1\"", ",}", "", " 1\n");
    Reading.only(H + "h_bucket{le=\"1\"}", " ", "", "1\n");
    Reading.only(S + "s{s=\"1\"}", " ", "", "1\n");
    Reading.only(H + INF + "1\nh_count", "{ ", Reading.NAMES, "1\n");
  }

  private static void labelsWithCommasBetween() {
    Check.sentence("Then, if { is there: labels with , between, one at least, up to }.");
    good(G + "g 1\ng{a=\"x y,}\",b=\"\",c=\"\\\\\\\"\\n\"} 1\n" + EOF);
    fault(Reading.SYNTAX, G + "g~!");
    fault(Reading.SYNTAX, G + "g{~");
    fault(Reading.SYNTAX, G + "g{~} 1\n");
    fault(Reading.SYNTAX, G + "g{~,} 1\n");
    fault(Reading.SYNTAX, G + "g{~{} 1\n");
    fault(Reading.SYNTAX, G + "g{~ a=\"\"} 1\n");
    fault(Reading.SYNTAX, G + "g{a~} 1\n");
    fault(Reading.SYNTAX, G + "g{a=~1} 1\n");
    fault(Reading.SYNTAX, G + "g{a=\"1~");
    fault(Reading.SYNTAX, G + "g{a=\"1~\n");
    fault(Reading.SYNTAX, G + "g{a=\"\\~t\"} 1\n");
    fault(Reading.SYNTAX, G + "g{a=\"\"~");
    fault(Reading.SYNTAX, G + "g{a=\"\"~ } 1\n");
    fault(Reading.SYNTAX, G + "g{a=\"\"~b=\"\"} 1\n");
    fault(Reading.SYNTAX, G + "g{a=\"\",~} 1\n");
    fault(Reading.SYNTAX, G + "g{a=\"\",~,b=\"\"} 1\n");
    fault(Reading.SYNTAX, G + "g{a=\"\",~ b=\"\"} 1\n");
    fault(Reading.SYNTAX, G + "g{a=\"\"}~1\n");
    fault(Reading.SYNTAX, G + "g{a=\"\"}~\n" + EOF);
    fault(Reading.SYNTAX, G + "g{a=\"\"}~{} 1\n");
    fault(Reading.SYNTAX, G + "g ~{a=\"\"} 1\n");
  }

  private static void emptyNames() {
    Check.sentence("A label: a run of bytes of names: SYNTAX (place: of it) if empty");
    fault(Reading.SYNTAX, G + "g{~=\"\"} 1\n");
    fault(Reading.SYNTAX, G + "g{a=\"\",~=\"\"} 1\n");
    fault(Reading.SYNTAX, H + "h_bucket{~=\"1\"} 1\n");
    fault(Reading.SYNTAX, A + "a_total 1 # {~=\"\"} 1 1\n");
  }

  private static void longValues() {
    Check.sentence("escaped bytes: LONG (place: the first), if more than 12 (of le in name_bucket, the first such: more than 20)");
    String[] twelve = {"123456789012", "12345678901\\n", "\\\\".repeat(12), " ".repeat(12)};
    for (String value : twelve) {
      good(G + "g{a=\"" + value + "\"} 1\n" + EOF);
      good(G + "g{a=\"\",b=\"" + value + "\"} 1\n" + EOF);
      good(S + "s{s=\"" + value + "\"} 1\n" + EOF);
      good(A + "a_total 1 # {a=\"" + value + "\"} 1 1\n" + EOF);
      fault(Reading.LONG, G + "g{a=\"~" + value + "x\"} 1\n");
      fault(Reading.LONG, G + "g{a=\"~" + value + "\\n\"!");
      fault(Reading.LONG, G + "g{a=\"\",b=\"~" + value + "x\"} 1\n");
      fault(Reading.LONG, S + "s{s=\"~" + value + "x\"} 1\n");
      fault(Reading.LONG, S + "s{a=\"~" + value + "x\",s=\"\"} 1\n");
      fault(Reading.LONG, A + "a_total 1 # {a=\"~" + value + "x\"} 1 1\n");
      fault(Reading.LONG, H + "h_bucket{a=\"~" + value + "x\",le=\"1\"} 1\n");
      fault(Reading.LONG, I + "i_info{le=\"~" + value + "x\"} 1\n");
      fault(Reading.SYNTAX, G + "g{a=\"" + value + "x~");
      fault(Reading.SYNTAX, G + "g{a=\"" + value + "x~\n\"} 1\n");
      fault(Reading.SYNTAX, G + "g{a=\"" + value + "x\\~a\"} 1\n");
    }
    fault(Reading.LONG, G + "g{a=\"~" + "x".repeat(999) + "\"} 1\n");
  }

  private static void longBounds() {
    Check.sentence("escaped bytes: LONG (place: the first), if more than 12 (of le in name_bucket, the first such: more than 20)");
    fault(Reading.VALUE, H + "h_bucket{le=\"~1234567890123\"} 1\n");
    fault(Reading.VALUE, H + "h_bucket{le=\"~12345678901234567890\"} 1\n");
    fault(Reading.VALUE, H + "h_bucket{le=\"~" + "\\\\".repeat(20) + "\"} 1\n");
    fault(Reading.LONG, H + "h_bucket{le=\"~123456789012345678901\"} 1\n");
    fault(Reading.LONG, H + "h_bucket{le=\"~" + "\\\\".repeat(21) + "\"} 1\n");
    fault(Reading.LONG, H + "h_bucket{a=\"\",le=\"~123456789012345678901\"!");
    fault(Reading.LONG, H + "h_bucket{le=\"1\",le=\"~1234567890123\"} 1\n");
    fault(Reading.LABEL, H + "h_bucket{le=\"1\",~le=\"123456789012\"} 1\n");
    fault(Reading.LONG, H + INF + "1\nh_count{le=\"~1234567890123\"} 1\n");
    fault(Reading.LONG, H + INF + "1\nh_count 1\nh_sum{le=\"~1234567890123\"} 1\n");
    fault(Reading.LONG, H + INF + "1\nh_count 1\nh_sum 1\nh_created{le=\"~1234567890123\"} 1\n");
    fault(Reading.LONG, H + INF + "1 # {le=\"~1234567890123\"} 1 1\n");
    good(H + "h_bucket{le=\"-999999999999.999\"} 1\n" + INF + "1\nh_count 1\nh_sum 1\n" + EOF);
  }

  private static void labelNames() {
    Check.sentence("its name is not as said (the one more, le in name_bucket, the family's name in STATESET, is as said)");
    for (String wrong : new String[] {"9", "0a", ":", "a:", ":a", "__", "__a", "___", "abcdefghi", "_________", "a".repeat(300)}) {
      fault(Reading.LABEL, G + "g{~" + wrong + "=\"\"} 1\n");
      fault(Reading.LABEL, A + "a_total 1 # {~" + wrong + "=\"\"} 1 1\n");
      fault(Reading.LABEL, H + "h_bucket{~" + wrong + "=\"\",le=\"1\"} 1\n");
      fault(Reading.LABEL, S + "s{~" + wrong + "=\"\",s=\"1\"} 1\n");
      fault(Reading.LABEL, H + INF + "1\nh_count{~" + wrong + "=\"\"} 1\n");
    }
    good(G + "g{_=\"\",_a_=\"\",abcdefgh=\"\"} 1\n" + EOF);
    good(G + "g{a__=\"\"} 1\n" + EOF);
    good(G + "g{g=\"\",le=\"\"} 1\n" + EOF);
    good(I + "i_info{i=\"\",le=\"\"} 1\n" + EOF);
    good(A + "a_total{a=\"\",le=\"\"} 1\n" + EOF);
    good(S + "s{le=\"\",s=\"\"} 1\n" + EOF);
    fault(Reading.LABEL, "# TYPE g:g gauge\ng:g{~g:g=\"\"} 1\n");
  }

  private static void labelNameBytes() {
    Check.sentence("its name is not as said (the one more, le in name_bucket, the family's name in STATESET, is as said)");
    for (char b : Reading.NAMES.toCharArray()) {
      boolean digit = b >= '0' && b <= '9';
      if (b == ':' || digit) {
        fault(Reading.LABEL, G + "g{~" + b + "=\"\"} 1\n");
      } else {
        good(G + "g{" + b + "=\"\"} 1\n" + EOF);
      }
      if (b == ':') {
        fault(Reading.LABEL, G + "g{~a" + b + "=\"\"} 1\n");
      } else {
        good(G + "g{a" + b + "=\"\"} 1\n" + EOF);
      }
    }
  }

  private static void labelsThatRise() {
    Check.sentence("it does not rise above the one before");
    String[][] rising = {{"a", "b"}, {"a", "ab"}, {"A", "a"}, {"Z", "_"}, {"_", "a"}, {"a9", "aA"}, {"aZ", "a_"}, {"a_", "aa"},
        {"abcdefg", "abcdefgh"}, {"abcdefgh", "abcdefgi"}};
    for (String[] two : rising) {
      good(G + "g{" + two[0] + "=\"\"," + two[1] + "=\"\"} 1\n" + EOF);
      fault(Reading.LABEL, G + "g{" + two[1] + "=\"\",~" + two[0] + "=\"\"} 1\n");
      fault(Reading.LABEL, G + "g{" + two[0] + "=\"\",~" + two[0] + "=\"x\"} 1\n");
      fault(Reading.LABEL, A + "a_total 1 # {" + two[1] + "=\"\",~" + two[0] + "=\"\"} 1 1\n");
      fault(Reading.LABEL, A + "a_total 1 # {" + two[1] + "=\"\",~" + two[1] + "=\"\"} 1 1\n");
    }
    fault(Reading.LABEL, G + "g{a=\"\",c=\"\",~b=\"\"} 1\n");
    fault(Reading.LABEL, G + "g{b=\"\",c=\"\",~a=\"\"} 1\n");
    fault(Reading.LABEL, G + "g{a=\"\",b=\"\",~b=\"\"} 1\n");
    fault(Reading.LABEL, G + "g{a=\"\",b=\"\",~a=\"\"} 1\n");
    fault(Reading.LABEL, S + "s{z=\"\",~b=\"\",s=\"\"} 1\n");
    good(S + "s{b=\"\",z=\"\",s=\"\"} 1\n" + EOF);
    good(H + "h_bucket{z=\"\",le=\"+Inf\"} 1\nh_count{z=\"\"} 1\nh_sum{z=\"\"} 1\n" + EOF);
  }

  private static void labelsBehindTheOneMore() {
    Check.sentence("it stands behind the one more");
    fault(Reading.LABEL, H + "h_bucket{le=\"+Inf\",~z=\"\"} 1\n");
    fault(Reading.LABEL, H + "h_bucket{le=\"+Inf\",~a=\"\"} 1\n");
    fault(Reading.LABEL, H + "h_bucket{le=\"+Inf\",~le=\"+Inf\"} 1\n");
    fault(Reading.LABEL, H + "h_bucket{a=\"\",le=\"+Inf\",~z=\"\"} 1\n");
    fault(Reading.LABEL, S + "s{s=\"\",~z=\"\"} 1\n");
    fault(Reading.LABEL, S + "s{s=\"\",~a=\"\"} 1\n");
    fault(Reading.LABEL, S + "s{s=\"\",~s=\"\"} 1\n");
    fault(Reading.SYNTAX, S + "s{s=\"\",~} 1\n");
  }

  private static void fourLabels() {
    Check.sentence("it would be the fourth but for the one more.");
    good(G + "g{a=\"\",b=\"\",c=\"\"} 1\n" + EOF);
    fault(Reading.LABEL, G + "g{a=\"\",b=\"\",c=\"\",~d=\"\"} 1\n");
    fault(Reading.LABEL, G + "g{a=\"\",b=\"\",c=\"\",~d=\"\",e=\"\"} 1\n");
    fault(Reading.LABEL, G + "g{a=\"\",b=\"\",c=\"\",~d=\"\"!");
    fault(Reading.SYNTAX, G + "g{a=\"\",b=\"\",c=\"\",~");
    good(H + "h_bucket{a=\"\",b=\"\",z=\"\",le=\"+Inf\"} 1\nh_count{a=\"\",b=\"\",z=\"\"} 1\n"
        + "h_sum{a=\"\",b=\"\",z=\"\"} 1\nh_created{a=\"\",b=\"\",z=\"\"} 1\n" + EOF);
    fault(Reading.LABEL, H + "h_bucket{a=\"\",b=\"\",c=\"\",~d=\"\",le=\"+Inf\"} 1\n");
    fault(Reading.LABEL, H + "h_bucket{a=\"\",b=\"\",c=\"\",le=\"+Inf\",~d=\"\"} 1\n");
    fault(Reading.SYNTAX, H + "h_bucket{a=\"\",b=\"\",c=\"\",le=\"+Inf\",~");
    good(S + "s{a=\"\",b=\"\",z=\"\",s=\"x\"} 1\n" + EOF);
    fault(Reading.LABEL, S + "s{a=\"\",b=\"\",c=\"\",~z=\"\",s=\"x\"} 1\n");
  }

  private static void labelsWhenTheirValueIsRead() {
    Check.sentence("8 LABEL (place: its name; when its value has been read)");
    fault(Reading.SYNTAX, G + "g{9~} 1\n");
    fault(Reading.SYNTAX, G + "g{9=~x\"} 1\n");
    fault(Reading.SYNTAX, G + "g{9=\"x~\n");
    fault(Reading.LONG, G + "g{9=\"~1234567890123\"} 1\n");
    fault(Reading.LONG, G + "g{b=\"\",a=\"~1234567890123\"} 1\n");
    fault(Reading.LONG, G + "g{a=\"\",b=\"\",c=\"\",d=\"~1234567890123\"} 1\n");
    fault(Reading.LABEL, G + "g{~9=\"x\"!");
    fault(Reading.LABEL, G + "g{~9=\"x\"");
    fault(Reading.LABEL, G + "g{b=\"\",~a=\"\"");
  }

  private static void oneMoreThatIsNotThere() {
    Check.sentence("8 LABEL, too (place: the sample's name), if the one more is not there where it must be.");
    fault(Reading.LABEL, H + "~h_bucket 1\n");
    fault(Reading.LABEL, H + "~h_bucket!");
    fault(Reading.LABEL, H + "~h_bucket");
    fault(Reading.LABEL, H + "~h_bucket{a=\"\"} 1\n");
    fault(Reading.LABEL, H + "~h_bucket{h=\"\"} 1\n");
    fault(Reading.LABEL, H + "~h_bucket{Le=\"1\"} 1\n");
    fault(Reading.LABEL, H + "h_bucket{le=\"1\"} 1\n~h_bucket 1\n");
    fault(Reading.LABEL, H + INF + "1\nh_count 1\nh_sum 1\n~h_bucket 1\n");
    fault(Reading.LABEL, S + "~s 1\n");
    fault(Reading.LABEL, S + "~s{le=\"\"} 1\n");
    fault(Reading.LABEL, S + "~s{ss=\"\"} 1\n");
    fault(Reading.LABEL, S + "s{s=\"a\"} 1\n~s 1\n");
    fault(Reading.LABEL, S + "s{s=\"a\"} 1\ns{s=\"b\"} 1\ns{x=\"\",s=\"a\"} 1\n~s{x=\"\"} 1\n");
    fault(Reading.SYNTAX, H + "h_bucket{~} 1\n");
  }

  private static void oneMoreOfAnyName() {
    Check.sentence("its name is not as said (the one more, le in name_bucket, the family's name in STATESET, is as said)");
    for (String name : new String[] {"__a:long_name_24_bytes_x", ":", "__", "le", "abcdefghi"}) {
      good("# TYPE " + name + " stateset\n" + name + "{" + name + "=\"\"} 1\n" + EOF);
      good("# TYPE " + name + " stateset\n" + name + "{a=\"\"," + name + "=\"\"} 1\n" + EOF);
    }
  }

  private static void childrenTwice() {
    Check.sentence("for the first sample of a child: 9 TWICE (place: the sample's name), if a child of the family has that set");
    fault(Reading.TWICE, A + "a_total 1\n~a_total 1\n");
    fault(Reading.TWICE, A + "a_total 1\n~a_total");
    fault(Reading.TWICE, A + "a_total 1\na_created 1\n~a_total!");
    fault(Reading.TWICE, G + "g{a=\"\"} 1\ng 1\n~g{a=\"\"} 1\n");
    fault(Reading.TWICE, G + "g{a=\"\"} 1\ng 1\n~g 1\n");
    fault(Reading.TWICE, G + "g{a=\"x\",b=\"y\"} 1\ng{a=\"x\"} 1\n~g{a=\"x\",b=\"y\"} 1\n");
    good(G + "g{a=\"\"} 1\ng{b=\"\"} 1\ng{a=\"x\"} 1\ng{a=\"\",b=\"\"} 1\ng{a=\"xy\"} 1\n# TYPE k gauge\nk{a=\"\"} 1\n" + EOF);
    fault(Reading.TWICE, I + "i_info 1\n~i_info 1\n");
    fault(Reading.TWICE, H + INF + "1\nh_count 1\nh_sum 1\n~h_bucket{le=\"7\"} 1\n");
    fault(Reading.TWICE, H + INF + "1\nh_count 1\nh_sum 1\nh_created 1\n~h_bucket{le=\"+Inf\"} 1\n");
    fault(Reading.TWICE, S + "s{s=\"a\"} 1\ns{x=\"\",s=\"a\"} 1\n~s{s=\"a\"} 1\n");
    fault(Reading.TWICE, S + "s{s=\"a\"} 1\ns{x=\"\",s=\"a\"} 1\n~s{x=\"\",s=\"a\"} 1\n");
  }

  private static void twentyFourChildren() {
    Check.sentence("FULL, if there are 24.");
    StringBuilder many = new StringBuilder(S + "s{s=\"\"} 1\n" + G);
    for (int k = 1; k < 24; k++) {
      many.append("g{k=\"").append(k).append("\"} 1\n");
    }
    good(many + EOF);
    MeterSheet x = new MeterSheet();
    Check.read(x, many + EOF);
    Check.due("24 of them", 24, x.look(1, 1));
    fault(Reading.FULL, many + "~g 1\n");
    fault(Reading.FULL, many + "~g!");
    fault(Reading.FULL, many + "~g{k=\"24\"} x\n");
    fault(Reading.TWICE, many + "~g{k=\"1\"} 1\n");
    fault(Reading.LABEL, many + "g{~9=\"1\"} 1\n");
    fault(Reading.FULL, many + "# TYPE t stateset\n~t{t=\"x\"} 2\n");
    fault(Reading.FULL, many + H + "~h_bucket{le=\"x\"} 1\n");
    good(many + "# TYPE t stateset\n" + EOF);
    StringBuilder sets = new StringBuilder(G);
    for (int k = 1; k < 24; k++) {
      sets.append("g{k=\"").append(k).append("\"} 1\n");
    }
    good(sets + S + "s{s=\"a\"} 1\ns{s=\"b\"} 1\n" + EOF);
    good(sets + A + "a_total 1\na_created 1\n" + EOF);
    good(sets + H + INF + "1\nh_count 1\nh_sum 1\nh_created 1\n" + EOF);
    fault(Reading.FULL, sets + S + "s{s=\"a\"} 1\ns{s=\"b\"} 1\n~s{x=\"\",s=\"a\"} 1\n");
  }

  private static void childrenThatChange() {
    Check.sentence("For others: 10 CHILD (place: the sample's name), if the set is not that of the child");
    fault(Reading.CHILD, A + "a_total 1\n~a_created{a=\"\"} 1\n");
    fault(Reading.CHILD, A + "a_total{a=\"\"} 1\n~a_created 1\n");
    fault(Reading.CHILD, A + "a_total{a=\"\"} 1\n~a_created");
    fault(Reading.CHILD, A + "a_total{a=\"\"} 1\n~a_created!");
    fault(Reading.CHILD, A + "a_total{a=\"\"} 1\n~a_created{a=\"b\"} 1\n");
    fault(Reading.CHILD, A + "a_total{a=\"\"} 1\n~a_created{b=\"\"} 1\n");
    fault(Reading.CHILD, A + "a_total{a=\"\",b=\"\"} 1\n~a_created{a=\"\"} 1\n");
    fault(Reading.CHILD, A + "a_total 1\na_total{a=\"\"} 1\n~a_created 1\n");
    String set = H + "h_bucket{a=\"\",le=\"1\"} 1\n";
    fault(Reading.CHILD, set + "~h_bucket{le=\"2\"} 1\n");
    fault(Reading.CHILD, set + "~h_bucket{a=\"\",b=\"\",le=\"2\"} 1\n");
    fault(Reading.CHILD, set + "~h_bucket{a=\"x\",le=\"y\"}!");
    String all = set + "h_bucket{a=\"\",le=\"+Inf\"} 1\n";
    fault(Reading.CHILD, all + "~h_count 1\n");
    fault(Reading.CHILD, all + "~h_count{a=\"x\"} 1\n");
    fault(Reading.CHILD, all + "h_count{a=\"\"} 1\n~h_sum 1\n");
    fault(Reading.CHILD, all + "h_count{a=\"\"} 1\n~h_sum{b=\"\"} 1\n");
    fault(Reading.CHILD, all + "h_count{a=\"\"} 1\nh_sum{a=\"\"} 1\n~h_created 1\n");
    fault(Reading.CHILD, all + "h_count{a=\"\"} 1\nh_sum{a=\"\"} 1\n~h_created{a=\"\",b=\"\"} 1\n");
    good(all + "h_count{a=\"\"} 1\nh_sum{a=\"\"} 1\nh_created{a=\"\"} 1\n" + EOF);
    fault(Reading.CHILD, H + INF + "1\n~h_count{a=\"\"} 1\n");
  }

  private static void labelLeBehindOthers() {
    Check.sentence("(also by a label le behind name_count, name_sum, name_created)");
    fault(Reading.CHILD, H + INF + "1\n~h_count{le=\"+Inf\"} 1\n");
    fault(Reading.CHILD, H + INF + "1\n~h_count{le=\"\"} 1\n");
    fault(Reading.CHILD, H + INF + "1\nh_count 1\n~h_sum{le=\"\"} 1\n");
    fault(Reading.CHILD, H + INF + "1\nh_count 1\nh_sum 1\n~h_created{le=\"1\"} 1\n");
    fault(Reading.CHILD, H + "h_bucket{a=\"\",le=\"+Inf\"} 1\n~h_count{a=\"\",le=\"+Inf\"} 1\n");
    fault(Reading.LABEL, H + "h_bucket{z=\"\",le=\"+Inf\"} 1\nh_count{z=\"\",~le=\"+Inf\"} 1\n");
    fault(Reading.LABEL, H + "h_bucket{a=\"\",b=\"\",c=\"\",le=\"+Inf\"} 1\nh_count{a=\"\",b=\"\",c=\"\",~le=\"+Inf\"} 1\n");
  }

  private static void firstChildOfAStateset() {
    Check.sentence("Of a STATESET's first child all samples with its labels that stand one behind the other are due, one at "
        + "least");
    for (int states = 1; states <= 4; states++) {
      StringBuilder text = new StringBuilder(S);
      for (int k = 0; k < states; k++) {
        text.append("s{z=\"\",s=\"").append(k).append("\"} 1\n");
      }
      MeterSheet x = new MeterSheet();
      Check.due(states + " states", "0 at -1", Check.read(x, text + EOF));
      Check.due("one child", 1, x.look(1, 1));
      Check.due("its states", states, x.familyOf(1, 0, 6));
    }
    Check.sentence("but at a STATESET's first child another set makes it whole, and begins a new child.");
    MeterSheet x = new MeterSheet();
    Check.due("one each", "0 at -1", Check.read(x, S + "s{s=\"a\"} 1\ns{x=\"\",s=\"a\"} 1\ns{y=\"\",s=\"a\"} 1\n" + EOF));
    Check.due("three children", "3 1", x.look(1, 1) + " " + x.familyOf(1, 0, 6));
    fault(Reading.CHILD, S + "s{s=\"a\"} 1\ns{x=\"\",s=\"~b\"} 1\n");
    good(S + "s{s=\"a\"} 1\n" + G + "g 1\n" + EOF);
  }

  private static void otherChildrenOfAStateset() {
    Check.sentence("of others as many as the first has.");
    String two = S + "s{s=\"a\"} 1\ns{s=\"b\"} 1\n";
    good(two + "s{x=\"\",s=\"a\"} 0\ns{x=\"\",s=\"b\"} 0\ns{y=\"\",s=\"a\"} 0\ns{y=\"\",s=\"b\"} 0\n# TYPE t stateset\nt{t=\"z\"} 1\n"
        + EOF);
    fault(Reading.CHILD, two + "s{x=\"\",s=\"a\"} 1\n~s{y=\"\",s=\"b\"} 1\n");
    fault(Reading.CHILD, two + "s{x=\"\",s=\"a\"} 1\n~s{y=\"\",s=\"a\"} 1\n");
    fault(Reading.CHILD, two + "s{x=\"\",s=\"a\"} 1\n~s{s=\"b\"} 1\n");
    fault(Reading.TWICE, two + "s{x=\"\",s=\"a\"} 1\ns{x=\"\",s=\"b\"} 1\n~s{x=\"\",s=\"c\"} 1\n");
    fault(Reading.ORDER, two + "s{x=\"\",s=\"a\"} 1\n~# TYPE t stateset\n");
    good("# TYPE t stateset\nt{t=\"z\"} 1\nt{t=\"y\"} 1\n" + S + "s{s=\"a\"} 1\ns{x=\"\",s=\"a\"} 1\n" + EOF);
  }

  private static void samplesThatAreFoundFirst() {
    Check.sentence("answers 0, or the FAULT that it finds first");
    fault(Reading.LABEL, G + "g 1\ng{~9=\"\"} 1\n");
    fault(Reading.SYNTAX, G + "g 1\ng{a=\"\"~ } 1\n");
    fault(Reading.TWICE, G + "g 1\n~g x\n");
    fault(Reading.TWICE, H + INF + "1\nh_count 1\nh_sum 1\n~h_bucket{le=\"x\"} 1\n");
    fault(Reading.LABEL, H + INF + "1\nh_count 1\nh_sum 1\n~h_bucket{a=\"\"} 1\n");
    fault(Reading.NAME, A + "~a{");
    fault(Reading.NAME, A + "~a{9=\"\"} x\n");
    fault(Reading.CHILD, A + "a_total 1\n~a_created{a=\"\"}x\n");
    fault(Reading.CHILD, H + "h_bucket{le=\"1\"} 1\n~h_bucket{a=\"\",le=\"x\"} 1\n");
  }
}
