import java.util.Random;

/**
 * What was written is read again as the same sheet, and a text with a wrong byte never does harm: sheets and wrong bytes
 * are drawn from a source with a fixed seed, so that each run is the same.
 */
public final class RoundTripTest {
  private static final String NAME_BYTES = "abAB_:9";
  private static final String TEXT_BYTES = "ab \"\\\n{}=,#~";
  private static final String WRONG_BYTES = "\n\"\\ #{}=,.-+_:019aelsEOFIn~\t\200";

  public static void main(String[] args) {
    Random random = new Random(7);
    for (int run = 0; run < 400; run++) {
      MeterSheet x = new MeterSheet();
      fill(x, random);
      int size = x.write(0, 0);
      if (size == 0 || size > 4000) {
        continue;
      }
      Check.due("run " + run + " copies", size, x.copy());
      Check.due("run " + run + " reads", "0 at -1", x.read() + " at " + x.place());
      Check.due("run " + run + " is the same", true, x.same());
      Check.due("run " + run + " writes as many", size, x.write(1, 0));
      for (int k = 0; k < 40; k++) {
        spoil(x, random, size);
      }
    }
    Check.end();
  }

  /** Puts a wrong byte on the tape; if it can still be read, what was read must be written as it is read. */
  private static void spoil(MeterSheet x, Random random, int size) {
    x.write(0, 0);
    x.copy();
    x.poke(random.nextInt(size), WRONG_BYTES.charAt(random.nextInt(WRONG_BYTES.length())));
    int fault = x.read();
    Check.due("a fault is known", true, fault >= 0 && fault <= 14);
    Check.due("a place goes with a fault", fault != 0, x.place() >= 0 && x.place() <= size);
    Check.due("the sheet is empty behind a fault", true, fault == 0 || x.look(1, 0) + x.look(1, 1) + x.look(1, 2) == 0);
    if (fault == 0) {
      int families = x.look(1, 0);
      int again = x.write(1, 0);
      x.copy();
      Check.due("what was read can be read again", 0, x.read());
      Check.due("with as many families", families, x.look(1, 0));
      Check.due("and as many bytes", again, x.write(1, 0));
    }
  }

  private static void fill(MeterSheet x, Random random) {
    int families = 1 + random.nextInt(3);
    for (int k = 0; k < families; k++) {
      oneFamily(x, random);
    }
    int children = x.look(0, 0) == 0 ? 0 : random.nextInt(6);
    for (int k = 0; k < children; k++) {
      oneChild(x, random, random.nextInt(x.look(0, 0)));
    }
    for (int k = 0; k < 10; k++) {
      oneMeasure(x, random, random.nextInt(6));
    }
  }

  private static void oneFamily(MeterSheet x, Random random) {
    int kind = random.nextInt(5);
    boolean withUnit = kind < 3 && random.nextBoolean();
    String name = "n" + any(random, NAME_BYTES, 6) + (withUnit ? "_by" : "");
    try {
      Check.family(x, kind, name, withUnit ? "by" : "", any(random, TEXT_BYTES, 9));
    } catch (UnsupportedOperationException e) {
      return;
    }
    int family = x.look(0, 0) - 1;
    for (int k = 0; k < 4; k++) {
      try {
        if (kind == Check.HISTOGRAM) {
          x.bound(family, random.nextInt(5000) - 500);
        } else if (kind == Check.STATESET) {
          Check.state(x, family, any(random, TEXT_BYTES, 4));
        }
      } catch (IllegalArgumentException | IllegalStateException e) {
        continue;
      }
    }
  }

  private static void oneChild(MeterSheet x, Random random, int family) {
    String[] words = new String[2 * random.nextInt(4)];
    for (int k = 0; k < words.length; k += 2) {
      words[k] = (char) ('a' + random.nextInt(20)) + any(random, "ab_0", 3);
      words[k + 1] = any(random, TEXT_BYTES, 6);
    }
    try {
      Check.child(x, family, words);
    } catch (IllegalArgumentException e) {
      Check.child(x, family);
    }
  }

  private static void oneMeasure(MeterSheet x, Random random, int child) {
    if (child >= x.look(0, 1)) {
      return;
    }
    x.tick(random.nextInt(900));
    String exemplar = random.nextBoolean() ? any(random, TEXT_BYTES, 5) : "";
    switch (x.familyOf(0, (int) x.childOf(0, child, 0), 0)) {
      case Check.COUNTER: Check.add(x, child, random.nextInt(3000), "t", exemplar); break;
      case Check.GAUGE: x.add(child, random.nextInt(3000) - 1500, false); break;
      case Check.HISTOGRAM: Check.observe(x, child, random.nextInt(5000), "t", exemplar); break;
      case Check.STATESET: x.turn(child, 0, random.nextBoolean()); break;
      default: break;
    }
  }

  private static String any(Random random, String bytes, int most) {
    StringBuilder out = new StringBuilder();
    for (int k = random.nextInt(most + 1); k > 0; k--) {
      out.append(bytes.charAt(random.nextInt(bytes.length())));
    }
    return out.toString();
  }
}
