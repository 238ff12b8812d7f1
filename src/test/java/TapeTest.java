/** Promises 1 to 5: a new object, feed, copy, poke, cut. */
public final class TapeTest {
  public static void main(String[] args) {
    aNewObject();
    feedPutsLowestBytesFirst();
    feedRefuses();
    pokeChangesOrAppends();
    pokeAtTheEnds();
    cutKeepsTheFirst();
    copyTakesWhatWasWritten();
    copyOfJustAsMuch();
    copyRefusesWhatIsTooLong();
    Check.end();
  }

  private static void aNewObject() {
    MeterSheet x = new MeterSheet();
    Check.due("time at first", 0, x.tick(0));
    Check.due("place at first", -1, x.place());
    Check.due("families at first", 0, x.look(0, 0));
    Check.due("children at first", 0, x.look(0, 1));
    Check.due("families read at first", 0, x.look(1, 0));
    Check.due("nothing kept is like nothing read", true, x.same());
    Check.dueThrow("nothing is written at first", Check.NO_ELEMENT, () -> x.text(0));
    Check.due("nothing to copy at first", 0, x.copy());
    Check.due("an empty sheet read", "# EOF\n", Check.written(x, 1, 0));
  }

  private static void feedPutsLowestBytesFirst() {
    MeterSheet x = new MeterSheet();
    Check.due("feed 1", 1, x.feed(1, 0x7fffffffffffff23L));
    Check.due("feed 5", 6, x.feed(5, 0x0a464f4520L));
    Check.due("what was fed is read", 0, x.read());
    Check.due("feed 8", 14, x.feed(8, -1L));
    Check.due("bytes behind the end are a fault", "1 at 6", x.read() + " at " + x.place());
  }

  private static void feedRefuses() {
    MeterSheet x = new MeterSheet();
    Check.dueThrow("feed 0", Check.ARGUMENT, () -> x.feed(0, 1));
    Check.dueThrow("feed 9", Check.ARGUMENT, () -> x.feed(9, 1));
    Check.dueThrow("feed -1", Check.ARGUMENT, () -> x.feed(-1, 1));
    for (int k = 0; k < 499; k++) {
      x.feed(8, 0);
    }
    Check.due("up to 3999", 3999, x.feed(7, 0));
    Check.dueThrow("one too many", Check.STATE, () -> x.feed(2, 0));
    Check.dueThrow("a wrong n comes before a full tape", Check.ARGUMENT, () -> x.feed(9, 0));
    Check.due("up to 4000", 4000, x.feed(1, 0));
    Check.dueThrow("a full tape", Check.STATE, () -> x.feed(1, 0));
  }

  private static void pokeChangesOrAppends() {
    MeterSheet x = new MeterSheet();
    Check.due("poke behind an empty tape", true, x.poke(0, '#'));
    Check.due("poke beyond", false, x.poke(2, ' '));
    Check.due("poke before", false, x.poke(-1, ' '));
    Check.due("poke least", false, x.poke(Integer.MIN_VALUE, ' '));
    Check.due("poke most", false, x.poke(Integer.MAX_VALUE, ' '));
    Check.due("only one byte is there", "1 at 1", x.read() + " at " + x.place());
    Check.tape(x, "# EOX\n");
    Check.due("poke in place", true, x.poke(4, 'F' + 256 * 77));
    Check.due("its lowest 8 bits count", 0, x.read());
    Check.due("poke does not grow inside", false, x.cut(7));
  }

  private static void pokeAtTheEnds() {
    MeterSheet x = new MeterSheet();
    for (int k = 0; k < 499; k++) {
      x.feed(8, 0);
    }
    x.feed(7, 0);
    Check.due("poke makes it 4000", true, x.poke(3999, 7));
    Check.due("poke behind 4000", false, x.poke(4000, 7));
    Check.due("poke inside 4000", true, x.poke(3999, 8));
  }

  private static void cutKeepsTheFirst() {
    MeterSheet x = new MeterSheet();
    Check.tape(x, "# EOF\nrest");
    Check.due("cut more than there is", false, x.cut(11));
    Check.due("cut below 0", false, x.cut(-1));
    Check.due("cut to all", true, x.cut(10));
    Check.due("cut to some", true, x.cut(6));
    Check.due("the first stay", 0, x.read());
    Check.due("cut to none", true, x.cut(0));
    Check.due("nothing is left", false, x.cut(1));
  }

  private static void copyTakesWhatWasWritten() {
    MeterSheet x = new MeterSheet();
    x.write(0, 0);
    Check.tape(x, "something else that is longer");
    Check.due("copy", 6, x.copy());
    Check.due("the tape is what was written", 0, x.read());
    Check.due("and no more", 6, Check.tapeSize(x));
  }

  private static void copyOfJustAsMuch() {
    MeterSheet x = new MeterSheet();
    Check.fillTo(x, 4000);
    Check.due("4000 bytes are written", 4000, x.write(0, 0));
    Check.due("4000 bytes are copied", 4000, x.copy());
    Check.due("and read", 0, x.read());
    Check.due("as the same", true, x.same());
    MeterSheet y = new MeterSheet();
    Check.fillTo(y, 4001);
    Check.due("4001 bytes are written", 4001, y.write(0, 0));
    Check.due("4001 bytes are not copied", -1, y.copy());
  }

  private static void copyRefusesWhatIsTooLong() {
    MeterSheet x = new MeterSheet();
    Check.manyHistograms(x, 4);
    int size = x.write(0, 0);
    Check.due("the text is long, and not too long", true, size > 4000 && size <= 12000);
    Check.tape(x, "abc");
    Check.due("copy of a long text", -1, x.copy());
    Check.due("the tape stays", 3, Check.tapeSize(x));
    Check.manyHistograms(x, 24);
    Check.due("a text that is too long is not written", 0, x.write(0, 0));
    Check.due("copy of nothing", 0, x.copy());
    Check.due("the tape is empty", 0, Check.tapeSize(x));
  }
}
