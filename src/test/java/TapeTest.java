/** Promises 1 to 5: a new object, feed, copy, poke, cut. */
public final class TapeTest {
  private static final String TEXT = "# TYPE g gauge\n# HELP g It's all (so) far\ng{a=\"b\"} -1.25\n# EOF\n";

  public static void main(String[] args) {
    newObjectHasNothing();
    newObjectHasRoomForAll();
    objectsAreApart();
    feedPutsLowestBytesFirst();
    feedOfTooFewOrTooMany();
    feedBehindAFullTape();
    feedUpToTheLastByte();
    copyTakesWhatWasWritten();
    copyOfNothing();
    copyOfJustAsMuch();
    copyOfOneMore();
    pokeChangesOrComesBehind();
    pokeKeepsTheLowestBits();
    pokeWhereThereIsNoPlace();
    pokeAtAFullTape();
    cutKeepsTheFirst();
    cutToWhatIsNotThere();
    Check.end();
  }

  private static String readTape(MeterSheet x) {
    return x.read() + " at " + x.place();
  }

  private static void newObjectHasNothing() {
    Check.sentence("No families, no children, time 0; nothing written or read.");
    MeterSheet x = new MeterSheet();
    for (int which = 0; which < 2; which++) {
      int w = which;
      for (int what = 0; what < 3; what++) {
        Check.due("look " + which + " " + what, 0, x.look(which, what));
      }
      Check.dueThrow("no family", Check.ARGUMENT, () -> x.familyOf(w, 0, 0));
      Check.dueThrow("no child", Check.NO_ELEMENT, () -> x.childOf(w, 0, 0));
      Check.dueThrow("no bound", Check.NO_ELEMENT, () -> x.bucket(w, 0, 0, 0));
    }
    Check.due("time", 0, x.tick(0));
    Check.dueThrow("nothing is written", Check.NO_ELEMENT, () -> x.text(0));
    Check.due("place", -1, x.place());
    Check.due("nothing kept is like nothing read", true, x.same());
    Check.due("an empty sheet", "# EOF\n", Check.written(x, 0, 0));
    Check.due("an empty sheet, form 1", "", Check.written(x, 0, 1));
    Check.due("nothing read", "# EOF\n", Check.written(x, 1, 0));
    Check.due("nothing read, form 1", "", Check.written(x, 1, 1));
    Check.sentence("The TAPE has at most 4000, none at first");
    Check.due("no byte to keep", false, x.cut(1));
    Check.due("none", 0, Check.tapeSize(x));
    Check.due("read at once", "1 at 0", readTape(new MeterSheet()));
  }

  private static void newObjectHasRoomForAll() {
    Check.sentence("No families, no children, time 0; nothing written or read.");
    MeterSheet x = new MeterSheet();
    Check.dueThrow("remove", Check.NO_ELEMENT, () -> x.remove(0));
    Check.dueThrow("add", Check.NO_ELEMENT, () -> x.add(0, 0, false));
    Check.dueThrow("set", Check.NO_ELEMENT, () -> x.set(0, 0));
    Check.dueThrow("observe", Check.NO_ELEMENT, () -> x.observe(0, 0, false));
    Check.dueThrow("turn", Check.NO_ELEMENT, () -> x.turn(0, 0, true));
    Check.dueThrow("bound", Check.ARGUMENT, () -> x.bound(0, 0));
    Check.dueThrow("state", Check.ARGUMENT, () -> x.state(0));
    Check.dueThrow("cap", Check.ARGUMENT, () -> x.cap(0, 0));
    Check.dueThrow("child", Check.ARGUMENT, () -> x.child(0));
    Check.due("the first family", 0, Check.family(x, Check.GAUGE, "g"));
    Check.due("the first child, without a common label", 0, Check.child(x, 0));
    Check.due("its labels", 0, x.childOf(0, 0, 1));
  }

  private static void objectsAreApart() {
    Check.sentence("All memory is the class's own, made once.");
    MeterSheet x = Check.ofAllKinds();
    MeterSheet y = new MeterSheet();
    Check.due("another object has nothing of it", "0 0 0 0 0", y.look(0, 0) + " " + y.look(1, 0) + " " + y.tick(0) + " "
        + Check.tapeSize(y) + " " + y.copy());
    y.tick(99);
    Check.family(y, Check.INFO, "y");
    Check.due("and nothing of that comes back", "7 1507", x.look(0, 0) + " " + x.tick(0));
  }

  private static void feedPutsLowestBytesFirst() {
    Check.sentence("The n lowest bytes of v, lowest first, come behind the tape: how many it has.");
    for (int n = 1; n <= 8; n++) {
      MeterSheet x = new MeterSheet();
      for (int k = 0; k < TEXT.length(); k += n) {
        long v = n == 8 ? 0 : -1L << (8 * n);
        int m = Math.min(n, TEXT.length() - k);
        for (int i = 0; i < m; i++) {
          v = v & ~(255L << (8 * i)) | (long) TEXT.charAt(k + i) << (8 * i);
        }
        Check.due("feed " + m + " from " + k, k + m, x.feed(m, v));
      }
      Check.due("what was fed by " + n, "0 at -1", readTape(x));
      Check.due("is there", TEXT, Check.written(x, 1, 0));
    }
    MeterSheet x = new MeterSheet();
    Check.due("eight high bytes", 8, x.feed(8, -1L));
    Check.due("the first of them", "1 at 0", readTape(x));
  }

  private static void feedOfTooFewOrTooMany() {
    Check.sentence("Throws IllegalArgumentException when n is not 1 .. 8");
    for (int n : new int[] {0, -1, 9, -8, 16, 4000, Integer.MIN_VALUE, Integer.MAX_VALUE}) {
      Check.refused("feed " + n, Check.ARGUMENT, TEXT, false, x -> x.feed(n, 0x4242424242424242L));
    }
    MeterSheet x = new MeterSheet();
    Check.due("the least", 1, x.feed(1, '#'));
    Check.due("the most", 9, x.feed(8, 0x4242420a464f4520L));
  }

  private static MeterSheet withTape(int size) {
    MeterSheet x = new MeterSheet();
    for (int k = 0; k < size / 8; k++) {
      x.feed(8, 0x2020202020202020L);
    }
    if (size % 8 > 0) {
      x.feed(size % 8, 0x2020202020202020L);
    }
    return x;
  }

  private static void feedBehindAFullTape() {
    Check.sentence("IllegalStateException when it would have more than 4000.");
    for (int n = 1; n <= 8; n++) {
      int fed = n;
      MeterSheet x = withTape(4001 - n);
      Check.dueThrow("feed " + n + " behind " + (4001 - n), Check.STATE, () -> x.feed(fed, 0));
      Check.due("nothing came behind it", false, x.cut(4002 - n));
      Check.due("nothing is gone", true, x.cut(4001 - n));
    }
    Check.sentence("Of several exceptions that hold the one listed first is thrown");
    MeterSheet y = withTape(4000);
    Check.dueThrow("feed 9 behind 4000", Check.ARGUMENT, () -> y.feed(9, 0));
    Check.dueThrow("feed 0 behind 4000", Check.ARGUMENT, () -> y.feed(0, 0));
    Check.dueThrow("feed most behind 4000", Check.ARGUMENT, () -> y.feed(Integer.MAX_VALUE, 0));
  }

  private static void feedUpToTheLastByte() {
    Check.sentence("IllegalStateException when it would have more than 4000.");
    for (int n = 1; n <= 8; n++) {
      Check.due("feed " + n + " up to 4000", 4000, withTape(4000 - n).feed(n, 0));
    }
  }

  private static void copyTakesWhatWasWritten() {
    Check.sentence("The tape becomes what was written latest: how many bytes");
    MeterSheet x = new MeterSheet();
    Check.family(x, Check.GAUGE, "g");
    int size = x.write(0, 0);
    Check.tape(x, "something else that is quite a bit longer than that");
    Check.due("copy", size, x.copy());
    Check.due("no more than that", size, Check.tapeSize(x));
    Check.due("it can be read", "0 at -1", readTape(x));
    Check.due("and is the same", true, x.same());
    x.poke(0, '!');
    x.feed(1, 'x');
    Check.due("what was written is not the tape", '#', x.text(0) & 255);
    Check.due("copy again", size, x.copy());
    Check.due("it is whole again", "0 at -1", readTape(x));
    Check.due("the lesser form", 15, x.write(0, 1));
    Check.dueThrow("a call that writes nothing", Check.ARGUMENT, () -> x.write(0, 2));
    Check.due("the latest counts", 15, x.copy());
    Check.due("its bytes", "1 at 15", readTape(x));
  }

  private static void copyOfNothing() {
    Check.sentence("The tape becomes what was written latest: how many bytes");
    MeterSheet x = new MeterSheet();
    Check.tape(x, "abc");
    Check.due("nothing was written", 0, x.copy());
    Check.due("the tape is empty", 0, Check.tapeSize(x));
    Check.tape(x, "abc");
    x.write(0, 1);
    Check.due("an empty text", 0, x.copy());
    Check.due("the tape is empty again", 0, Check.tapeSize(x));
    x.write(0, 0);
    Check.manyHistograms(x, 12);
    Check.due("a text that is too long is not written", 0, x.write(0, 0));
    Check.tape(x, "abc");
    Check.due("so none is there", 0, x.copy());
    Check.due("the tape is empty a third time", 0, Check.tapeSize(x));
  }

  private static void copyOfJustAsMuch() {
    Check.sentence("-1, and nothing changes, if they are more than 4000.");
    MeterSheet x = new MeterSheet();
    Check.fillTo(x, 4000, 0);
    Check.due("4000 bytes are written", 4000, x.write(0, 0));
    Check.due("4000 bytes are copied", 4000, x.copy());
    Check.dueThrow("and no more", Check.STATE, () -> x.feed(1, 0));
    Check.due("they are read", "0 at -1", readTape(x));
    Check.due("as the same", true, x.same());
  }

  private static void copyOfOneMore() {
    Check.sentence("-1, and nothing changes, if they are more than 4000.");
    MeterSheet x = new MeterSheet();
    Check.fillTo(x, 4001, 0);
    Check.due("4001 bytes are written", 4001, x.write(0, 0));
    Check.tape(x, TEXT);
    Check.due("4001 bytes are not copied", -1, x.copy());
    Check.due("the tape is as long", TEXT.length(), Check.tapeSize(x));
    Check.due("what was written stays", 10, x.text(4000));
    Check.due("the tape is as it was", "0 at -1", readTape(x));
  }

  private static void pokeChangesOrComesBehind() {
    Check.sentence("Byte k of the tape becomes v (its lowest 8 bits), or comes behind it, if k is how many it has: true");
    MeterSheet x = new MeterSheet();
    String text = "# EOF\n";
    for (int k = 0; k < text.length(); k++) {
      Check.due("poke behind " + k, true, x.poke(k, text.charAt(k)));
      Check.due("one more", k + 1, Check.tapeSize(x));
    }
    Check.due("all of it", "0 at -1", readTape(x));
    for (int k = 0; k < text.length(); k++) {
      Check.due("poke at " + k, true, x.poke(k, '!'));
      Check.due("no more for it", text.length(), Check.tapeSize(x));
      Check.due("it is there", "1 at " + (k == 3 || k == 4 ? 2 : k), readTape(x));
      x.poke(k, text.charAt(k));
      Check.due("and put right", "0 at -1", readTape(x));
    }
  }

  private static void pokeKeepsTheLowestBits() {
    Check.sentence("Byte k of the tape becomes v (its lowest 8 bits), or comes behind it, if k is how many it has: true");
    for (int high : new int[] {256, -256, 0x7fffff00, 0x12345600, Integer.MIN_VALUE}) {
      MeterSheet x = new MeterSheet();
      Check.tape(x, "# EOX");
      Check.due("inside, with " + high, true, x.poke(4, 'F' + high));
      Check.due("behind, with " + high, true, x.poke(5, '\n' + high));
      Check.due("only the lowest 8 count", "0 at -1", readTape(x));
    }
  }

  private static void pokeWhereThereIsNoPlace() {
    Check.sentence("false if there is no such place, or it has 4000.");
    for (int k : new int[] {7, 8, 3999, 4000, 4001, -1, -7, Integer.MIN_VALUE, Integer.MAX_VALUE}) {
      MeterSheet x = new MeterSheet();
      Check.tape(x, "# EOF\n");
      Check.due("poke " + k, false, x.poke(k, 'x'));
      Check.due("it is as long", 6, Check.tapeSize(x));
      Check.due("and as it was", "0 at -1", readTape(x));
    }
    MeterSheet x = new MeterSheet();
    Check.due("before an empty one", false, x.poke(-1, 'x'));
    Check.due("far behind an empty one", false, x.poke(1, 'x'));
    Check.due("it stays empty", false, x.cut(1));
  }

  private static void pokeAtAFullTape() {
    Check.sentence("false if there is no such place, or it has 4000.");
    MeterSheet x = withTape(3999);
    Check.due("poke makes it 4000", true, x.poke(3999, 7));
    Check.due("poke behind 4000", false, x.poke(4000, 7));
    Check.due("poke farther behind", false, x.poke(4001, 7));
    Check.due("poke inside 4000", true, x.poke(3999, 8));
    Check.due("it has 4000", true, x.cut(4000));
    Check.due("poke behind 4000 again", false, x.poke(4000, 7));
  }

  private static void cutKeepsTheFirst() {
    Check.sentence("The tape keeps its first n bytes: true");
    MeterSheet x = new MeterSheet();
    Check.tape(x, "# EOF\nrest");
    Check.due("all", true, x.cut(10));
    Check.due("all of them are kept", 10, Check.tapeSize(x));
    Check.due("all but one", true, x.cut(9));
    Check.due("one is gone", 9, Check.tapeSize(x));
    Check.due("some", true, x.cut(6));
    Check.due("the first are kept", "0 at -1", readTape(x));
    Check.due("fewer", true, x.cut(4));
    Check.due("more come behind those", 6, x.feed(2, 0x0a46));
    Check.due("at their place", "0 at -1", readTape(x));
    Check.due("none", true, x.cut(0));
    Check.due("none of none", true, x.cut(0));
    Check.due("it is empty", "1 at 0", readTape(x));
  }

  private static void cutToWhatIsNotThere() {
    Check.sentence("false if it has not as many.");
    MeterSheet x = new MeterSheet();
    Check.due("one of none", false, x.cut(1));
    Check.tape(x, "# EOF\n");
    for (int n : new int[] {7, 8, 4000, 4001, Integer.MAX_VALUE, -1, -6, Integer.MIN_VALUE}) {
      Check.due("cut " + n, false, x.cut(n));
    }
    Check.due("it is as long", 6, Check.tapeSize(x));
    Check.due("and as it was", "0 at -1", readTape(x));
  }
}
