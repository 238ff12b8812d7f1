/** Promises 18 and 19: write, text. */
public final class WriteTest {
  public static void main(String[] args) {
    allKinds();
    numbers();
    textInEights();
    wrongArguments();
    tooLong();
    justFits();
    whatWasRead();
    Check.end();
  }

  private static MeterSheet sheet() {
    MeterSheet x = new MeterSheet();
    int c = Check.family(x, Check.COUNTER, "req_s", "s", "q \" b \\ n \n.");
    int g = Check.family(x, Check.GAUGE, "g");
    int h = Check.family(x, Check.HISTOGRAM, "h_by", "by", "");
    int i = Check.family(x, Check.INFO, "i", "", "of it");
    int s = Check.family(x, Check.STATESET, "s", "", "");
    Check.family(x, Check.HISTOGRAM, "none", "", "");
    x.bound(h, -500);
    x.bound(h, 1000);
    x.bound(h, 2340);
    Check.state(x, s, "o\"n");
    Check.state(x, s, "");
    x.tick(1007);
    Check.child(x, c, "b", "\"\\\n", "a", "");
    Check.child(x, g);
    Check.child(x, h);
    Check.child(x, h, "z", "1", "m", "2");
    Check.child(x, i, "v", "1");
    Check.child(x, i);
    Check.child(x, s, "z", "");
    Check.child(x, s);
    x.tick(3);
    Check.add(x, 0, 2500, "t", "9", "s", "\"");
    x.add(1, -1234, false);
    Check.observe(x, 2, 1000, "t", "");
    Check.observe(x, 2, 3000);
    x.observe(3, 0, false);
    x.turn(6, 1, true);
    return x;
  }

  private static void allKinds() {
    MeterSheet x = sheet();
    Check.due("form 0", "# TYPE req_s counter\n# UNIT req_s s\n# HELP req_s q \\\" b \\\\ n \\n.\n"
        + "req_s_total{a=\"\",b=\"\\\"\\\\\\n\"} 2.5 # {s=\"\\\"\",t=\"9\"} 2.5 1.01\n"
        + "req_s_created{a=\"\",b=\"\\\"\\\\\\n\"} 1.007\n"
        + "# TYPE g gauge\ng -1.234\n"
        + "# TYPE h_by histogram\n# UNIT h_by by\n"
        + "h_by_bucket{le=\"-0.5\"} 0\nh_by_bucket{le=\"1\"} 1 # {t=\"\"} 1 1.01\nh_by_bucket{le=\"2.34\"} 1\n"
        + "h_by_bucket{le=\"+Inf\"} 2 # {} 3 1.01\nh_by_count 2\nh_by_sum 4\nh_by_created 1.007\n"
        + "h_by_bucket{m=\"2\",z=\"1\",le=\"-0.5\"} 0\nh_by_bucket{m=\"2\",z=\"1\",le=\"1\"} 1\n"
        + "h_by_bucket{m=\"2\",z=\"1\",le=\"2.34\"} 1\nh_by_bucket{m=\"2\",z=\"1\",le=\"+Inf\"} 1\n"
        + "h_by_count{m=\"2\",z=\"1\"} 1\nh_by_sum{m=\"2\",z=\"1\"} 0\nh_by_created{m=\"2\",z=\"1\"} 1.007\n"
        + "# TYPE i info\n# HELP i of it\ni_info{v=\"1\"} 1\ni_info 1\n"
        + "# TYPE s stateset\ns{z=\"\",s=\"o\\\"n\"} 0\ns{z=\"\",s=\"\"} 1\ns{s=\"o\\\"n\"} 0\ns{s=\"\"} 0\n"
        + "# TYPE none histogram\n# EOF\n", Check.written(x, 0, 0));
    Check.due("form 1", "# HELP req_s_total q \" b \\\\ n \\n.\n# TYPE req_s_total counter\n"
        + "req_s_total{a=\"\",b=\"\\\"\\\\\\n\"} 2.5\n"
        + "# TYPE g gauge\ng -1.234\n"
        + "# TYPE h_by histogram\n"
        + "h_by_bucket{le=\"-0.5\"} 0\nh_by_bucket{le=\"1\"} 1\nh_by_bucket{le=\"2.34\"} 1\n"
        + "h_by_bucket{le=\"+Inf\"} 2\nh_by_count 2\nh_by_sum 4\n"
        + "h_by_bucket{m=\"2\",z=\"1\",le=\"-0.5\"} 0\nh_by_bucket{m=\"2\",z=\"1\",le=\"1\"} 1\n"
        + "h_by_bucket{m=\"2\",z=\"1\",le=\"2.34\"} 1\nh_by_bucket{m=\"2\",z=\"1\",le=\"+Inf\"} 1\n"
        + "h_by_count{m=\"2\",z=\"1\"} 1\nh_by_sum{m=\"2\",z=\"1\"} 0\n"
        + "# HELP i_info of it\n# TYPE i_info gauge\ni_info{v=\"1\"} 1\ni_info 1\n"
        + "# TYPE s gauge\ns{z=\"\",s=\"o\\\"n\"} 0\ns{z=\"\",s=\"\"} 1\ns{s=\"o\\\"n\"} 0\ns{s=\"\"} 0\n"
        + "# TYPE none histogram\n", Check.written(x, 0, 1));
  }

  private static void numbers() {
    MeterSheet x = new MeterSheet();
    Check.family(x, Check.GAUGE, "g");
    Check.child(x, 0);
    long[] numbers = {0, 1, -1, 10, 100, 999, 1000, -1000, 1001, 1010, 1100, -99990, 100000, Check.MOST, -Check.MOST,
        999999999999000L, 100000000000000L};
    String[] texts = {"0", "0.001", "-0.001", "0.01", "0.1", "0.999", "1", "-1", "1.001", "1.01", "1.1", "-99.99", "100",
        "999999999999.999", "-999999999999.999", "999999999999", "100000000000"};
    for (int k = 0; k < numbers.length; k++) {
      x.set(0, numbers[k]);
      Check.due("number " + numbers[k], "# TYPE g gauge\ng " + texts[k] + "\n", Check.written(x, 0, 1));
    }
  }

  private static void textInEights() {
    MeterSheet x = new MeterSheet();
    Check.due("how many", 6, x.write(0, 0));
    Check.due("from 0", 0x0a464f452023L, x.text(0));
    Check.due("from 2", 0x0a464f45L, x.text(2));
    Check.due("from 5", 10, x.text(5));
    Check.dueThrow("from 6", Check.NO_ELEMENT, () -> x.text(6));
    Check.dueThrow("from -1", Check.NO_ELEMENT, () -> x.text(-1));
    Check.dueThrow("from far", Check.NO_ELEMENT, () -> x.text(Integer.MAX_VALUE));
    Check.due("an empty text", 0, x.write(0, 1));
    Check.dueThrow("from 0 of none", Check.NO_ELEMENT, () -> x.text(0));
  }

  private static void wrongArguments() {
    MeterSheet x = new MeterSheet();
    x.write(0, 0);
    Check.dueThrow("sheet 2", Check.ARGUMENT, () -> x.write(2, 0));
    Check.dueThrow("sheet -1", Check.ARGUMENT, () -> x.write(-1, 0));
    Check.dueThrow("form 2", Check.ARGUMENT, () -> x.write(0, 2));
    Check.dueThrow("form -1", Check.ARGUMENT, () -> x.write(1, -1));
    Check.due("what was written is still there", 10, x.text(5));
  }

  private static void tooLong() {
    MeterSheet x = new MeterSheet();
    x.write(0, 0);
    Check.manyHistograms(x, 24);
    Check.due("too long", 0, x.write(0, 0));
    Check.dueThrow("nothing is there", Check.NO_ELEMENT, () -> x.text(0));
    for (int k = 4; k < 24; k++) {
      x.remove(k);
    }
    Check.due("it fits again", true, x.write(0, 0) > 4000);
  }

  private static void justFits() {
    MeterSheet x = new MeterSheet();
    Check.fillTo(x, 12000);
    Check.due("just 12000", 12000, x.write(0, 0));
    Check.due("its last byte", 10, x.text(11999));
    MeterSheet y = new MeterSheet();
    Check.fillTo(y, 12001);
    Check.due("one more", 0, y.write(0, 0));
  }

  private static void whatWasRead() {
    MeterSheet x = new MeterSheet();
    String read = "# TYPE a counter\na_total 1\n# TYPE h histogram\nh_bucket{le=\"-5\"} 0\nh_bucket{le=\"+Inf\"} 3\n"
        + "h_count 3\nh_sum -7.5\n# EOF\n";
    Check.due("reading", "0 at -1", Check.read(x, read));
    Check.due("what was read, without times of creation", read, Check.written(x, 1, 0));
    Check.due("the kept sheet is empty", "# EOF\n", Check.written(x, 0, 0));
    Check.read(x, "# TYPE a counter\na_total 01.50 # {} 2.0 0.10\na_created 3.000\n# EOF\n");
    Check.due("numbers as they are written", "# TYPE a counter\na_total 1.5 # {} 2 0.1\na_created 3\n# EOF\n",
        Check.written(x, 1, 0));
    Check.due("of the lesser form", "# TYPE a_total counter\na_total 1.5\n", Check.written(x, 1, 1));
    Check.read(x, "#");
    Check.due("nothing behind a fault", "# EOF\n", Check.written(x, 1, 0));
  }
}
