/** Promises 18 and 19: write, text. */
public final class WriteTest {
  public static void main(String[] args) {
    formZero();
    formOne();
    emptySheets();
    numbersAsWritten();
    countsAsWritten();
    headsWithAndWithout();
    helpsAsWritten();
    valuesAsWritten();
    labelsAsWritten();
    oneMoreIsLast();
    childrenByFamilies();
    histogramsWithFewAndManyBounds();
    exemplarsAsWritten();
    wrongArguments();
    tooLong();
    justFits();
    tooLongAtAnyByte();
    whatWasRead();
    textInEights();
    textThatIsNotThere();
    writingChangesNothing();
    Check.end();
  }

  private static MeterSheet sheet() {
    MeterSheet x = new MeterSheet();
    int c = Check.family(x, Check.COUNTER, "req_s", "s", "q \" b \\ n \n.");
    int g = Check.family(x, Check.GAUGE, "g");
    int h = Check.family(x, Check.HISTOGRAM, "h_by", "by", "");
    int i = Check.family(x, Check.INFO, "i", "", "of it");
    int s = Check.family(x, Check.STATESET, "s", "", "");
    Check.family(x, Check.HISTOGRAM, "none", "", "");
    x.bound(h, -500);
    x.bound(h, 1000);
    x.bound(h, 2340);
    Check.state(x, s, "o\"n");
    Check.state(x, s, "");
    x.tick(1007);
    Check.child(x, c, "b", "\"\\\n", "a", "");
    Check.child(x, g);
    Check.child(x, h);
    Check.child(x, h, "z", "1", "m", "2");
    Check.child(x, i, "v", "1");
    Check.child(x, i);
    Check.child(x, s, "z", "");
    Check.child(x, s);
    x.tick(3);
    Check.add(x, 0, 2500, "t", "9", "s", "\"");
    x.add(1, -1234, false);
    Check.observe(x, 2, 1000, "t", "");
    Check.observe(x, 2, 3000);
    x.observe(3, 0, false);
    x.turn(6, 1, true);
    return x;
  }

  private static void formZero() {
    Check.sentence("WRITING, form 0. For each family in order, lines, each with a byte 10 at its end");
    Check.due("form 0", "# TYPE req_s counter\n# UNIT req_s s\n# HELP req_s q \\\" b \\\\ n \\n.\n"
        + "req_s_total{a=\"\",b=\"\\\"\\\\\\n\"} 2.5 # {s=\"\\\"\",t=\"9\"} 2.5 1.01\n"
        + "req_s_created{a=\"\",b=\"\\\"\\\\\\n\"} 1.007\n"
        + "# TYPE g gauge\ng -1.234\n"
        + "# TYPE h_by histogram\n# UNIT h_by by\n"
        + "h_by_bucket{le=\"-0.5\"} 0\nh_by_bucket{le=\"1\"} 1 # {t=\"\"} 1 1.01\nh_by_bucket{le=\"2.34\"} 1\n"
        + "h_by_bucket{le=\"+Inf\"} 2 # {} 3 1.01\nh_by_count 2\nh_by_sum 4\nh_by_created 1.007\n"
        + "h_by_bucket{m=\"2\",z=\"1\",le=\"-0.5\"} 0\nh_by_bucket{m=\"2\",z=\"1\",le=\"1\"} 1\n"
        + "h_by_bucket{m=\"2\",z=\"1\",le=\"2.34\"} 1\nh_by_bucket{m=\"2\",z=\"1\",le=\"+Inf\"} 1\n"
        + "h_by_count{m=\"2\",z=\"1\"} 1\nh_by_sum{m=\"2\",z=\"1\"} 0\nh_by_created{m=\"2\",z=\"1\"} 1.007\n"
        + "# TYPE i info\n# HELP i of it\ni_info{v=\"1\"} 1\ni_info 1\n"
        + "# TYPE s stateset\ns{z=\"\",s=\"o\\\"n\"} 0\ns{z=\"\",s=\"\"} 1\ns{s=\"o\\\"n\"} 0\ns{s=\"\"} 0\n"
        + "# TYPE none histogram\n# EOF\n", Check.written(sheet(), 0, 0));
  }

  private static void formOne() {
    Check.sentence("a COUNTER is called name_total in both lines, an INFO name_info; INFO and STATESET have the kind gauge.");
    Check.due("form 1", "# HELP req_s_total q \" b \\\\ n \\n.\n# TYPE req_s_total counter\n"
        + "req_s_total{a=\"\",b=\"\\\"\\\\\\n\"} 2.5\n"
        + "# TYPE g gauge\ng -1.234\n"
        + "# TYPE h_by histogram\n"
        + "h_by_bucket{le=\"-0.5\"} 0\nh_by_bucket{le=\"1\"} 1\nh_by_bucket{le=\"2.34\"} 1\n"
        + "h_by_bucket{le=\"+Inf\"} 2\nh_by_count 2\nh_by_sum 4\n"
        + "h_by_bucket{m=\"2\",z=\"1\",le=\"-0.5\"} 0\nh_by_bucket{m=\"2\",z=\"1\",le=\"1\"} 1\n"
        + "h_by_bucket{m=\"2\",z=\"1\",le=\"2.34\"} 1\nh_by_bucket{m=\"2\",z=\"1\",le=\"+Inf\"} 1\n"
        + "h_by_count{m=\"2\",z=\"1\"} 1\nh_by_sum{m=\"2\",z=\"1\"} 0\n"
        + "# HELP i_info of it\n# TYPE i_info gauge\ni_info{v=\"1\"} 1\ni_info 1\n"
        + "# TYPE s gauge\ns{z=\"\",s=\"o\\\"n\"} 0\ns{z=\"\",s=\"\"} 1\ns{s=\"o\\\"n\"} 0\ns{s=\"\"} 0\n"
        + "# TYPE none histogram\n", Check.written(sheet(), 0, 1));
  }

  private static void emptySheets() {
    Check.sentence("At last the line # EOF.");
    MeterSheet x = new MeterSheet();
    Check.due("without families", 6, x.write(0, 0));
    Check.due("it is all there is", "# EOF\n", Check.latest(x));
    Check.sentence("WRITING, form 1: as form 0, but no UNIT line, no line # EOF, no name_created, no exemplars");
    Check.due("nothing in form 1", 0, x.write(0, 1));
    Check.dueThrow("nothing at all", Check.NO_ELEMENT, () -> x.text(0));
    for (int kind = 0; kind < 5; kind++) {
      Check.family(x, kind, "k" + kind);
    }
    Check.due("families without children", "# TYPE k0 counter\n# TYPE k1 gauge\n# TYPE k2 histogram\n# TYPE k3 info\n"
        + "# TYPE k4 stateset\n# EOF\n", Check.written(x, 0, 0));
    Check.due("families without children in form 1", "# TYPE k0_total counter\n# TYPE k1 gauge\n# TYPE k2 histogram\n"
        + "# TYPE k3_info gauge\n# TYPE k4 gauge\n", Check.written(x, 0, 1));
  }

  private static void numbersAsWritten() {
    Check.sentence("Written: - if below 0, the whole part, and if there is a rest a point and its three digits without the 0s "
        + "at their end.");
    MeterSheet x = new MeterSheet();
    Check.family(x, Check.GAUGE, "g");
    Check.child(x, 0);
    long[] numbers = {0, 1, -1, 9, 10, 11, 99, 100, 101, 110, 111, 120, -120, 500, 900, 990, 999, -999, 1000, -1000, 1001,
        1010, 1100, 9999, 10000, 10001, -99990, 100000, 109000, 110000, 1000000, 123456789, Check.MOST, -Check.MOST,
        999999999999000L, 100000000000000L, 99999999999999L, -100000000000001L};
    String[] texts = {"0", "0.001", "-0.001", "0.009", "0.01", "0.011", "0.099", "0.1", "0.101", "0.11", "0.111", "0.12",
        "-0.12", "0.5", "0.9", "0.99", "0.999", "-0.999", "1", "-1", "1.001", "1.01", "1.1", "9.999", "10", "10.001",
        "-99.99", "100", "109", "110", "1000", "123456.789", "999999999999.999", "-999999999999.999", "999999999999",
        "100000000000", "99999999999.999", "-100000000000.001"};
    for (int k = 0; k < numbers.length; k++) {
      x.set(0, numbers[k]);
      Check.due("number " + numbers[k], "# TYPE g gauge\ng " + texts[k] + "\n", Check.written(x, 0, 1));
    }
  }

  private static void countsAsWritten() {
    Check.sentence("Counts are written as whole numbers (thousandths of 1000).");
    MeterSheet x = new MeterSheet();
    Check.family(x, Check.HISTOGRAM, "h");
    Check.child(x, 0);
    for (int k = 0; k < 123; k++) {
      x.observe(0, 1, false);
    }
    Check.due("123", "# TYPE h histogram\nh_bucket{le=\"+Inf\"} 123\nh_count 123\nh_sum 0.123\n", Check.written(x, 0, 1));
    String most = "# TYPE h histogram\nh_bucket{le=\"1\"} 999999999999\nh_bucket{le=\"+Inf\"} 999999999999\n"
        + "h_count 999999999999\nh_sum 0\n# EOF\n";
    Check.read(x, most);
    Check.due("the most that can be read", most, Check.written(x, 1, 0));
  }

  private static void headsWithAndWithout() {
    Check.sentence("# TYPE name kind; # UNIT name unit, if it has one; # HELP name help, if that is not empty");
    for (int kind = 0; kind < 3; kind++) {
      String type = "# TYPE a_u " + new String[] {"counter", "gauge", "histogram"}[kind] + "\n";
      String unit = "# UNIT a_u u\n";
      String help = "# HELP a_u h\n";
      for (int mask = 0; mask < 4; mask++) {
        MeterSheet x = new MeterSheet();
        Check.family(x, kind, "a_u", mask % 2 == 1 ? "u" : "", mask > 1 ? "h" : "");
        Check.due("kind " + kind + " with " + mask, type + (mask % 2 == 1 ? unit : "") + (mask > 1 ? help : "") + "# EOF\n",
            Check.written(x, 0, 0));
        Check.sentence("HELP stands before TYPE");
        String lesser = (mask > 1 ? help : "") + type;
        Check.due("form 1, kind " + kind + " with " + mask, kind == 0 ? lesser.replace("a_u", "a_u_total") : lesser,
            Check.written(x, 0, 1));
      }
    }
  }

  private static void helpsAsWritten() {
    Check.sentence("In values and helps a byte 10 is written as a byte 92 and n, \" as 92 and \", 92 as 92 and 92.");
    MeterSheet x = new MeterSheet();
    Check.family(x, Check.GAUGE, "g", "", "\n\n\"\"\\\\ n\\n\\\"");
    Check.due("form 0", "# TYPE g gauge\n# HELP g \\n\\n\\\"\\\"\\\\\\\\ n\\\\n\\\\\\\"\n# EOF\n", Check.written(x, 0, 0));
    Check.sentence("and \" in a help is written as it is");
    Check.due("form 1", "# HELP g \\n\\n\"\"\\\\\\\\ n\\\\n\\\\\"\n# TYPE g gauge\n", Check.written(x, 0, 1));
    String all = "";
    for (char b = 32; b < 127; b++) {
      all += b == '"' || b == '\\' ? "" : b;
    }
    for (int k = 0; k < all.length(); k += 40) {
      MeterSheet y = new MeterSheet();
      String help = all.substring(k, Math.min(k + 40, all.length()));
      Check.family(y, Check.GAUGE, "g", "", help);
      Check.due("as it is", "# TYPE g gauge\n# HELP g " + help + "\n# EOF\n", Check.written(y, 0, 0));
    }
  }

  private static void valuesAsWritten() {
    Check.sentence("In values and helps a byte 10 is written as a byte 92 and n, \" as 92 and \", 92 as 92 and 92.");
    MeterSheet x = new MeterSheet();
    Check.family(x, Check.COUNTER, "c");
    Check.family(x, Check.STATESET, "s");
    Check.state(x, 1, "\"\\\n n\"\"\\\\\n\n");
    Check.child(x, 0, "a", "\n\n\"\"\\\\ {},=");
    Check.child(x, 1);
    Check.add(x, 0, 1, "b", "\"\"\"\"\"\"\\\\\\\n\n\n");
    String labels = "{a=\"\\n\\n\\\"\\\"\\\\\\\\ {},=\"}";
    String state = "s{s=\"\\\"\\\\\\n n\\\"\\\"\\\\\\\\\\n\\n\"} 0\n";
    Check.due("form 0", "# TYPE c counter\nc_total" + labels
        + " 0.001 # {b=\"\\\"\\\"\\\"\\\"\\\"\\\"\\\\\\\\\\\\\\n\\n\\n\"} 0.001 0\nc_created" + labels
        + " 0\n# TYPE s stateset\n" + state + "# EOF\n", Check.written(x, 0, 0));
    Check.due("form 1, with \" of values as in form 0", "# TYPE c_total counter\nc_total" + labels
        + " 0.001\n# TYPE s gauge\n" + state, Check.written(x, 0, 1));
  }

  private static void labelsAsWritten() {
    Check.sentence("LABELS: nothing without any; else {, the labels with , between, the one more last, }.");
    MeterSheet x = new MeterSheet();
    Check.family(x, Check.GAUGE, "g");
    Check.child(x, 0);
    Check.child(x, 0, "a", "");
    Check.child(x, 0, "b", "1", "a", "2");
    Check.child(x, 0, "c", "1", "b", "2", "a", "3");
    Check.due("none to three", "# TYPE g gauge\ng 0\ng{a=\"\"} 0\ng{a=\"2\",b=\"1\"} 0\ng{a=\"3\",b=\"2\",c=\"1\"} 0\n",
        Check.written(x, 0, 1));
  }

  private static void oneMoreIsLast() {
    Check.sentence("LABELS: nothing without any; else {, the labels with , between, the one more last, }.");
    MeterSheet x = new MeterSheet();
    Check.family(x, Check.HISTOGRAM, "h");
    Check.family(x, Check.STATESET, "a");
    Check.state(x, 1, "on");
    Check.child(x, 0, "z", "", "a", "", "m", "");
    Check.child(x, 1, "z", "", "b", "", "m", "");
    String three = "{a=\"\",m=\"\",z=\"\"";
    Check.due("behind those above it", "# TYPE h histogram\nh_bucket" + three + ",le=\"+Inf\"} 0\nh_count" + three
        + "} 0\nh_sum" + three + "} 0\n# TYPE a gauge\na{b=\"\",m=\"\",z=\"\",a=\"on\"} 0\n", Check.written(x, 0, 1));
  }

  private static void childrenByFamilies() {
    Check.sentence("then for each child, in the order in which they were made, its SAMPLES.");
    MeterSheet x = new MeterSheet();
    Check.family(x, Check.INFO, "b");
    Check.family(x, Check.INFO, "a");
    Check.child(x, 1, "k", "1");
    Check.child(x, 0, "k", "2");
    Check.child(x, 1, "k", "3");
    Check.child(x, 0, "k", "4");
    x.remove(0);
    Check.child(x, 0, "k", "5");
    Check.child(x, 1, "k", "6");
    Check.due("each with its own", "# TYPE b info\nb_info{k=\"2\"} 1\nb_info{k=\"4\"} 1\nb_info{k=\"5\"} 1\n# TYPE a info\n"
        + "a_info{k=\"3\"} 1\na_info{k=\"6\"} 1\n# EOF\n", Check.written(x, 0, 0));
  }

  private static void histogramsWithFewAndManyBounds() {
    Check.sentence("and +Inf for the last: how many observations fell to it or to those before");
    for (int bounds = 0; bounds <= 6; bounds++) {
      MeterSheet x = new MeterSheet();
      Check.family(x, Check.HISTOGRAM, "h");
      StringBuilder want = new StringBuilder("# TYPE h histogram\n");
      for (int b = 1; b <= bounds; b++) {
        x.bound(0, b * 1000);
        want.append("h_bucket{le=\"").append(b).append("\"} ").append(b * (b + 1) / 2).append('\n');
      }
      Check.child(x, 0);
      long sum = 0;
      for (int b = 1; b <= bounds + 1; b++) {
        for (int k = 0; k < b; k++) {
          x.observe(0, b * 1000, false);
          sum += b;
        }
      }
      int all = (bounds + 1) * (bounds + 2) / 2;
      want.append("h_bucket{le=\"+Inf\"} ").append(all).append("\nh_count ").append(all).append("\nh_sum ").append(sum);
      Check.due(bounds + " bounds", want + "\nh_created 0\n# EOF\n", Check.written(x, 0, 0));
    }
  }

  private static void exemplarsAsWritten() {
    Check.sentence("a space, #, a space, { with its labels (none, too) }, a space, its number, a space, its time.");
    MeterSheet x = new MeterSheet();
    Check.family(x, Check.COUNTER, "c");
    Check.family(x, Check.HISTOGRAM, "h");
    x.bound(1, 1000);
    x.bound(1, 2000);
    Check.child(x, 0);
    Check.child(x, 0, "a", "");
    Check.child(x, 1);
    x.tick(1250);
    Check.add(x, 0, 30);
    Check.add(x, 1, 0, "b", "2", "a", "1");
    Check.observe(x, 2, 2000, "a", "1");
    Check.observe(x, 2, 999999999990000L);
    Check.due("form 0", "# TYPE c counter\nc_total 0.03 # {} 0.03 1.25\nc_created 0\n"
        + "c_total{a=\"\"} 0 # {a=\"1\",b=\"2\"} 0 1.25\nc_created{a=\"\"} 0\n"
        + "# TYPE h histogram\nh_bucket{le=\"1\"} 0\nh_bucket{le=\"2\"} 1 # {a=\"1\"} 2 1.25\n"
        + "h_bucket{le=\"+Inf\"} 2 # {} 999999999990 1.25\nh_count 2\nh_sum 999999999992\nh_created 0\n# EOF\n",
        Check.written(x, 0, 0));
  }

  private static void wrongArguments() {
    Check.sentence("Throws IllegalArgumentException when there is no such sheet or form.");
    for (int wrong : new int[] {-1, 2, 3, Integer.MIN_VALUE, Integer.MAX_VALUE}) {
      for (int right = 0; right < 2; right++) {
        int r = right;
        Check.refused("sheet " + wrong, Check.ARGUMENT, "abc", false, x -> x.write(wrong, r));
        Check.refused("form " + wrong, Check.ARGUMENT, "abc", false, x -> x.write(r, wrong));
      }
    }
  }

  private static void tooLong() {
    Check.sentence("0 when there would be more than 12000 (nothing that was written is there then).");
    MeterSheet x = new MeterSheet();
    x.write(0, 0);
    Check.manyHistograms(x, 12);
    Check.due("too long", 0, x.write(0, 0));
    Check.dueThrow("nothing is there", Check.NO_ELEMENT, () -> x.text(0));
    Check.due("nor is there anything to copy", 0, x.copy());
    Check.due("too long again", 0, x.write(0, 0));
    for (int k = 4; k < 12; k++) {
      x.remove(k);
    }
    Check.due("it fits again", true, x.write(0, 0) > 4000);
    Check.due("from its first byte on", '#', x.text(0) & 255);
  }

  private static void justFits() {
    Check.sentence("0 when there would be more than 12000 (nothing that was written is there then).");
    for (int form = 0; form < 2; form++) {
      MeterSheet x = new MeterSheet();
      Check.fillTo(x, 12000, form);
      Check.due("just 12000", 12000, x.write(0, form));
      Check.due("its last byte", 10, x.text(11999));
      Check.due("its last bytes", form == 0 ? 0x0a464f452023L : 0x0a6567756167L, x.text(11994));
      Check.dueThrow("none behind it", Check.NO_ELEMENT, () -> x.text(12000));
      MeterSheet y = new MeterSheet();
      Check.fillTo(y, 12001, form);
      Check.due("one more", 0, y.write(0, form));
      Check.dueThrow("nothing is there", Check.NO_ELEMENT, () -> y.text(0));
      Check.due("the other form", form == 0, y.write(0, 1 - form) > 10000);
    }
  }

  /** A family with long names that comes last, with a unit, or with states and a child. */
  private static void addLast(MeterSheet x, boolean ofStates) {
    int last = Check.family(x, ofStates ? Check.STATESET : Check.GAUGE, "name_of_24_bytes_ends_in", ofStates ? "" : "ends_in",
        "help");
    if (ofStates) {
      Check.state(x, last, "on");
      Check.child(x, last, "abcdefgh", "123456789012");
    }
  }

  private static void tooLongAtAnyByte() {
    Check.sentence("0 when there would be more than 12000 (nothing that was written is there then).");
    for (int kind = 0; kind < 4; kind++) {
      int form = kind % 2;
      MeterSheet alone = new MeterSheet();
      int before = alone.write(0, form);
      addLast(alone, kind > 1);
      int size = alone.write(0, form) - before;
      for (int over = 0; over <= size + 1; over++) {
        MeterSheet x = new MeterSheet();
        Check.fillTo(x, 12000 + over - size, form);
        addLast(x, kind > 1);
        Check.due("form " + form + " of " + (12000 + over), over == 0 ? 12000 : 0, x.write(0, form));
      }
    }
  }

  private static void whatWasRead() {
    Check.sentence("Writes the sheet (which 0) or the one that was read (1) in a form: how many bytes");
    MeterSheet x = new MeterSheet();
    String read = "# TYPE a counter\na_total 1\n# TYPE h histogram\nh_bucket{le=\"-5\"} 0\nh_bucket{le=\"+Inf\"} 3\n"
        + "h_count 3\nh_sum -7.5\n# EOF\n";
    Check.due("reading", "0 at -1", Check.read(x, read));
    Check.due("what was read, without times of creation", read, Check.written(x, 1, 0));
    Check.due("the kept sheet is empty", "# EOF\n", Check.written(x, 0, 0));
    Check.read(x, "# TYPE a counter\na_total 01.50 # {} 2.0 0.10\na_created 3.000\n# EOF\n");
    Check.due("numbers as they are written", "# TYPE a counter\na_total 1.5 # {} 2 0.1\na_created 3\n# EOF\n",
        Check.written(x, 1, 0));
    Check.due("of the lesser form", "# TYPE a_total counter\na_total 1.5\n", Check.written(x, 1, 1));
    Check.read(x, "#");
    Check.due("nothing behind a fault", "# EOF\n", Check.written(x, 1, 0));
    Check.due("nothing behind a fault in form 1", 0, x.write(1, 1));
  }

  private static void textInEights() {
    Check.sentence("Eight bytes of what was written latest, from k on, lowest first (0 behind the end).");
    MeterSheet x = new MeterSheet();
    Check.family(x, Check.GAUGE, "g");
    String text = "# TYPE g gauge\n# EOF\n";
    Check.due("how many", text.length(), x.write(0, 0));
    for (int k = 0; k < text.length(); k++) {
      long want = 0;
      for (int n = 0; n < 8 && k + n < text.length(); n++) {
        want |= (long) text.charAt(k + n) << (8 * n);
      }
      Check.due("from " + k, want, x.text(k));
    }
    Check.due("a longer text before", 15, x.write(0, 1));
    Check.due("does not show behind the end", 0x0a65L, x.text(13));
  }

  private static void textThatIsNotThere() {
    Check.sentence("Throws NoSuchElementException when there is no byte k.");
    for (int k : new int[] {19, 20, 26, 12000, -1, -8, Integer.MIN_VALUE, Integer.MAX_VALUE}) {
      Check.refused("from " + k, Check.NO_ELEMENT, "abc", false, x -> x.text(k));
    }
    MeterSheet x = Check.ofAllKinds();
    Check.due("the last one is there", 10, x.text(18));
    Check.due("the first one is there", '#', x.text(0) & 255);
    MeterSheet y = new MeterSheet();
    Check.dueThrow("nothing was written", Check.NO_ELEMENT, () -> y.text(0));
  }

  private static void writingChangesNothing() {
    Check.sentence("Writes the sheet (which 0) or the one that was read (1) in a form: how many bytes");
    MeterSheet x = Check.ofAllKinds();
    MeterSheet y = Check.ofAllKinds();
    for (int which = 0; which < 2; which++) {
      Check.tape(x, "abc");
      x.write(which, 1);
      x.write(which, 0);
      Check.due("the tape stays", 3, Check.tapeSize(x));
    }
    Check.tape(y, "abc");
    x.write(1, 1);
    Check.due("all is as before", Check.all(y), Check.all(x));
  }
}
