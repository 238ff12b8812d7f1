import java.util.NoSuchElementException;

/**
 * A sheet of measures with labels that is kept up by many small calls, written as text in two forms, and read again by
 * a strict reader. All rows are made in the constructor and used again, so that no call needs memory of its own.
 */
public final class MeterSheet {
  private static final int COUNTER = 0;
  private static final int GAUGE = 1;
  private static final int HISTOGRAM = 2;
  private static final int INFO = 3;
  private static final int STATESET = 4;
  private static final int KINDS = 5;

  /** The samples that a child can have: each stands for what is written behind the family's name. */
  private static final int PLAIN = 0;
  private static final int TOTAL = 1;
  private static final int CREATED = 2;
  private static final int BUCKET = 3;
  private static final int COUNT = 4;
  private static final int SUM = 5;
  private static final int FACT = 6;
  private static final int PARTS = 7;

  private static final int SYNTAX = 1;
  private static final int NAME = 2;
  private static final int KIND = 3;
  private static final int CLASH = 4;
  private static final int ORDER = 5;
  private static final int UNIT = 6;
  private static final int LONG = 7;
  private static final int LABEL = 8;
  private static final int TWICE = 9;
  private static final int CHILD = 10;
  private static final int VALUE = 11;
  private static final int BUCKETS = 12;
  private static final int EXEMPLAR = 13;
  private static final int FULL = 14;

  private static final int MOST_TAPE = 4000;
  private static final int MOST_WRITTEN = 12000;
  private static final int MOST_FAMILIES = 8;
  private static final int MOST_CHILDREN = 24;
  private static final int MOST_BOUNDS = 6;
  private static final int MOST_STATES = 4;
  private static final int MOST_LABELS = 3;
  private static final int MOST_EXEMPLAR_LABELS = 2;
  private static final int MOST_EXEMPLAR_BYTES = 40;
  private static final int MOST_NAME = 24;
  private static final int MOST_OWN_NAME = 32;
  private static final int MOST_UNIT = 8;
  private static final int MOST_HELP = 40;
  private static final int MOST_LABEL_NAME = 8;
  private static final int MOST_VALUE = 12;
  private static final int MOST_BOUND_VALUE = 20;
  private static final int MOST_LABEL = 22;
  private static final int MOST_WHOLE_DIGITS = 12;
  private static final int REST_DIGITS = 3;
  private static final long MOST_NUMBER = 999999999999999L;
  private static final long ONE = 1000;
  private static final long EXEMPLAR_AGE = 1000;

  private static final int NAME_END = 1;
  private static final int VALUE_END = 2;
  private static final int LINE_END = 10;
  private static final int QUOTE = 34;
  private static final int BACKSLASH = 92;

  private static final int OTHER_LINE = 0;
  private static final int TYPE_LINE = 1;
  private static final int UNIT_LINE = 2;

  private static final int UPPER = 0;
  private static final int LOWER = 1;
  private static final int DIGIT = 2;
  private static final int UNIT_BYTE = 3;
  private static final int LABEL_BYTE = 4;
  private static final int NAME_BYTE = 5;

  private final Row tape;
  private final Row written;
  private final Sheet kept;
  private final Sheet found;
  private final SheetWriter writer;
  private final SheetReader reader;
  private final LabelSet common;
  /** The set that the tape held latest, with room for the common label beside a full one. */
  private final LabelSet taken;
  private long now;

  public MeterSheet() {
    tape = new Row(MOST_TAPE);
    written = new Row(MOST_WRITTEN);
    kept = new Sheet();
    found = new Sheet();
    writer = new SheetWriter(written);
    reader = new SheetReader(new Cursor(tape), found);
    common = new LabelSet(1);
    taken = new LabelSet(MOST_LABELS + 1);
  }

  public int feed(int n, long v) throws IllegalArgumentException, IllegalStateException {
    if (n < 1 || n > 8) {
      throw new IllegalArgumentException("n is not 1 .. 8");
    }
    if (tape.size + n > MOST_TAPE) {
      throw new IllegalStateException("the tape is full");
    }
    for (int k = 0; k < n; k++) {
      tape.push((int) (v >>> (8 * k)) & 255);
    }
    return tape.size;
  }

  public int copy() {
    if (written.size > MOST_TAPE) {
      return -1;
    }
    tape.become(written, 0, written.size);
    return tape.size;
  }

  public boolean poke(int k, int v) {
    if (k < 0 || k > tape.size || k >= MOST_TAPE) {
      return false;
    }
    if (k == tape.size) {
      tape.push(v & 255);
    } else {
      tape.bytes[k] = (byte) v;
    }
    return true;
  }

  public boolean cut(int n) {
    if (n < 0 || n > tape.size) {
      return false;
    }
    tape.size = n;
    return true;
  }

  public int family(int kind) throws IllegalArgumentException, UnsupportedOperationException, IllegalStateException {
    Family fresh = kept.spareFamily();
    boolean good = kind >= 0 && kind < KINDS && fresh.take(kind, tape);
    tape.clear();
    if (!good) {
      throw new IllegalArgumentException("no such kind, or the tape is not as said");
    }
    int number = kept.findFamilyLike(fresh);
    if (number >= 0) {
      return number;
    }
    if (kept.clashes(fresh)) {
      throw new UnsupportedOperationException("another family has that name");
    }
    if (kept.familyCount >= MOST_FAMILIES) {
      throw new IllegalStateException("there are 8 families");
    }
    return kept.keepSpareFamily();
  }

  public int bound(int family, long bound) throws IllegalArgumentException, IllegalStateException {
    Family histogram = kept.familyAt(family);
    if (histogram == null || histogram.kind != HISTOGRAM || !isNumber(bound) || !histogram.risesTo(bound)) {
      throw new IllegalArgumentException("no such histogram, or the bound does not rise");
    }
    if (histogram.boundCount >= MOST_BOUNDS || histogram.used) {
      throw new IllegalStateException("no bound more");
    }
    histogram.pushBound(bound);
    return histogram.boundCount;
  }

  public int state(int family) throws IllegalArgumentException, IllegalStateException {
    Family set = kept.familyAt(family);
    boolean good = set != null && set.kind == STATESET && Sort.isText(tape, 0, tape.size, MOST_VALUE)
        && !set.hasStateUpTo(set.stateCount, tape);
    boolean room = good && set.stateCount < MOST_STATES && !set.used;
    if (room) {
      set.pushState(tape);
    }
    tape.clear();
    if (!good) {
      throw new IllegalArgumentException("no such stateset, or no such state");
    }
    if (!room) {
      throw new IllegalStateException("no state more");
    }
    return set.stateCount;
  }

  public void common() throws IllegalArgumentException {
    boolean good = taken.take(tape, 1);
    tape.clear();
    if (!good) {
      throw new IllegalArgumentException("the tape is no set of at most one label");
    }
    common.become(taken);
  }

  public void cap(int family, int most) throws IllegalArgumentException {
    Family capped = kept.familyAt(family);
    if (capped == null || most < 0 || most > MOST_CHILDREN) {
      throw new IllegalArgumentException("no such family, or most is not 0 .. 24");
    }
    capped.mostChildren = most;
  }

  public int child(int family) throws IllegalArgumentException, UnsupportedOperationException, IllegalStateException {
    Family parent = kept.familyAt(family);
    boolean good = parent != null && takeChildLabels(parent);
    tape.clear();
    if (!good) {
      throw new IllegalArgumentException("no such family, or the tape is no label set as said");
    }
    if (parent.kind == STATESET && parent.stateCount == 0) {
      throw new UnsupportedOperationException("a stateset without states");
    }
    int number = kept.findChild(family, taken);
    if (number >= 0) {
      return number;
    }
    if (kept.childrenOf(family) >= parent.mostChildren || kept.childCount >= MOST_CHILDREN) {
      throw new IllegalStateException("no child more");
    }
    parent.used = true;
    return kept.beginChild(family, taken, parent.hasPart(CREATED) ? now : -1);
  }

  public void remove(int child) throws NoSuchElementException {
    if (kept.childAt(child) == null) {
      throw new NoSuchElementException("no such child");
    }
    kept.dropChild(child);
  }

  public void add(int child, long v, boolean exemplar)
      throws NoSuchElementException, IllegalArgumentException, IllegalStateException {
    boolean good = !exemplar || takeExemplarLabels();
    Child counter = kept.childOfKind(COUNTER, child);
    Child grown = counter != null ? counter : kept.childOfKind(GAUGE, child);
    if (grown == null) {
      throw new NoSuchElementException("no such counter or gauge");
    }
    if (!good || !isNumber(v) || counter != null && v < 0) {
      throw new IllegalArgumentException("no such number, or the tape is no set as said");
    }
    if (!isNumber(grown.number + v)) {
      throw new IllegalStateException("the sum would be no number");
    }
    grown.number += v;
    if (exemplar && counter != null) {
      keepExemplar(counter, 0, v);
    }
  }

  public void set(int child, long v) throws NoSuchElementException, IllegalArgumentException {
    Child gauge = kept.childOfKind(GAUGE, child);
    if (gauge == null) {
      throw new NoSuchElementException("no such gauge");
    }
    if (!isNumber(v)) {
      throw new IllegalArgumentException("v is no number");
    }
    gauge.number = v;
  }

  public void observe(int child, long v, boolean exemplar)
      throws NoSuchElementException, IllegalArgumentException, IllegalStateException {
    boolean good = !exemplar || takeExemplarLabels();
    Child histogram = kept.childOfKind(HISTOGRAM, child);
    if (histogram == null) {
      throw new NoSuchElementException("no such histogram");
    }
    if (!good || !isNumber(v) || v < 0) {
      throw new IllegalArgumentException("no such number, or the tape is no set as said");
    }
    if (!isNumber(histogram.number + v)) {
      throw new IllegalStateException("the sum would be no number");
    }
    int fallsTo = kept.parentOf(histogram).bucketOf(v);
    histogram.number += v;
    histogram.count(fallsTo, 1);
    if (exemplar) {
      keepExemplar(histogram, fallsTo, v);
    }
  }

  public void turn(int child, int state, boolean on) throws NoSuchElementException {
    Child set = kept.childOfKind(STATESET, child);
    if (set == null || state < 0 || state >= kept.parentOf(set).stateCount) {
      throw new NoSuchElementException("no such stateset or state");
    }
    set.turnState(state, on);
  }

  public long tick(int ms) throws IllegalArgumentException {
    if (ms < 0) {
      throw new IllegalArgumentException("ms is below 0");
    }
    now += ms;
    return now;
  }

  public int write(int which, int form) throws IllegalArgumentException {
    Sheet sheet = sheetAt(which);
    if (sheet == null || form < 0 || form > 1) {
      throw new IllegalArgumentException("no such sheet or form");
    }
    return writer.writeSheet(sheet, form == 0);
  }

  public long text(int k) throws NoSuchElementException {
    if (k < 0 || k >= written.size) {
      throw new NoSuchElementException("nothing is written there");
    }
    long eight = 0;
    for (int n = 0; n < 8 && k + n < written.size; n++) {
      eight |= (long) written.at(k + n) << (8 * n);
    }
    return eight;
  }

  public int read() {
    return reader.readSheet();
  }

  public int place() {
    return reader.scan.place;
  }

  public boolean same() {
    return kept.isLike(found);
  }

  public int look(int which, int what) throws IllegalArgumentException {
    Sheet sheet = sheetAt(which);
    if (sheet == null || what < 0 || what > 2) {
      throw new IllegalArgumentException("no such sheet or what");
    }
    switch (what) {
      case 0: return sheet.familyCount;
      case 1: return sheet.childCount;
      default: return sheet.exemplarCount();
    }
  }

  public int familyOf(int which, int family, int what) throws IllegalArgumentException {
    Sheet sheet = sheetAt(which);
    Family seen = sheet == null ? null : sheet.familyAt(family);
    if (seen == null || what < 0 || what > 6) {
      throw new IllegalArgumentException("no such sheet, family or what");
    }
    switch (what) {
      case 0: return seen.kind;
      case 1: return sheet.childrenOf(family);
      case 2: return seen.name.size;
      case 3: return seen.unit.size;
      case 4: return seen.help.size;
      case 5: return seen.boundCount;
      default: return seen.stateCount;
    }
  }

  public long childOf(int which, int child, int what) throws IllegalArgumentException, NoSuchElementException {
    Sheet sheet = sheetAt(which);
    if (sheet == null || what < 0 || what > 5) {
      throw new IllegalArgumentException("no such sheet or what");
    }
    Child seen = sheet.childAt(child);
    if (seen == null) {
      throw new NoSuchElementException("no such child");
    }
    switch (what) {
      case 0: return seen.family;
      case 1: return seen.labels.row.size;
      case 2: return seen.number;
      case 3: return seen.observations();
      case 4: return seen.created;
      default: return seen.states;
    }
  }

  public long bucket(int which, int child, int b, int what) throws IllegalArgumentException, NoSuchElementException {
    Sheet sheet = sheetAt(which);
    if (sheet == null || what < 0 || what > 5) {
      throw new IllegalArgumentException("no such sheet or what");
    }
    Child seen = sheet.childAt(child);
    Exemplar exemplar = seen == null || b >= sheet.parentOf(seen).bucketCount() ? null : seen.exemplarAt(b);
    if (exemplar == null) {
      throw new NoSuchElementException("no such child or bound");
    }
    switch (what) {
      case 0: return sheet.parentOf(seen).boundAt(b);
      case 1: return seen.countAt(b);
      case 2: return exemplar.there ? 1 : 0;
      case 3: return exemplar.number;
      case 4: return exemplar.time;
      default: return exemplar.labels.row.size;
    }
  }

  private static boolean isNumber(long v) {
    return v >= -MOST_NUMBER && v <= MOST_NUMBER;
  }

  private Sheet sheetAt(int which) {
    return which == 0 ? kept : which == 1 ? found : null;
  }

  private boolean takeChildLabels(Family parent) {
    if (!taken.take(tape, MOST_LABELS) || taken.hasExtraOf(parent)) {
      return false;
    }
    if (common.count > 0 && !common.hasExtraOf(parent)) {
      taken.insert(common.row, 0, common.row.size);
    }
    return taken.count <= MOST_LABELS;
  }

  private boolean takeExemplarLabels() {
    boolean good = taken.take(tape, MOST_EXEMPLAR_LABELS) && taken.textBytes() <= MOST_EXEMPLAR_BYTES;
    tape.clear();
    return good;
  }

  private void keepExemplar(Child child, int b, long v) {
    Exemplar exemplar = child.exemplarAt(b);
    if (exemplar != null && (!exemplar.there || now - exemplar.time >= EXEMPLAR_AGE)) {
      exemplar.become(taken, v, now);
    }
  }

  /** What bytes there are, and what texts they make. */
  private static final class Sort {
    static boolean isOf(int sort, int b) {
      boolean lower = b >= 'a' && b <= 'z';
      boolean upper = b >= 'A' && b <= 'Z';
      boolean digit = b >= '0' && b <= '9';
      switch (sort) {
        case UPPER: return upper;
        case LOWER: return lower;
        case DIGIT: return digit;
        case UNIT_BYTE: return lower || digit || b == '_';
        case LABEL_BYTE: return lower || upper || digit || b == '_';
        default: return lower || upper || digit || b == '_' || b == ':';
      }
    }

    static boolean isName(boolean ofLabel, Row row, int start, int end) {
      int most = ofLabel ? MOST_LABEL_NAME : MOST_NAME;
      if (end <= start || end - start > most || isOf(DIGIT, row.at(start))) {
        return false;
      }
      for (int k = start; k < end; k++) {
        if (!isOf(ofLabel ? LABEL_BYTE : NAME_BYTE, row.at(k))) {
          return false;
        }
      }
      return !ofLabel || row.at(start) != '_' || row.at(start + 1) != '_';
    }

    static boolean isText(Row row, int start, int end, int most) {
      if (end < start || end - start > most) {
        return false;
      }
      for (int k = start; k < end; k++) {
        int b = row.at(k);
        if (b != LINE_END && (b < 32 || b > 126)) {
          return false;
        }
      }
      return true;
    }
  }

  /** A row of bytes with an upper length; what does not fit is left out, and over tells of it. */
  private static final class Row {
    final byte[] bytes;
    int size;
    boolean over;

    Row(int most) {
      bytes = new byte[most];
    }

    void clear() {
      size = 0;
      over = false;
    }

    /** The byte at a place, or -1 where there is none, which is no byte that may stand anywhere. */
    int at(int place) {
      return place >= 0 && place < size ? bytes[place] & 255 : -1;
    }

    void push(int b) {
      if (size < bytes.length) {
        bytes[size] = (byte) b;
        size++;
      } else {
        over = true;
      }
    }

    void pushText(String text) {
      for (int k = 0; k < text.length(); k++) {
        push(text.charAt(k));
      }
    }

    void become(Row from, int start, int end) {
      clear();
      insertSpan(0, from, start, end);
    }

    void insertSpan(int place, Row from, int start, int end) {
      int count = end - start;
      if (start < 0 || count < 0 || end > from.size || place < 0 || place > size || count > bytes.length - size) {
        over = true;
        return;
      }
      System.arraycopy(bytes, place, bytes, place + count, size - place);
      System.arraycopy(from.bytes, start, bytes, place, count);
      size += count;
    }

    void pushEscaped(int b, boolean quotesToo) {
      if (b == LINE_END) {
        push(BACKSLASH);
        push('n');
        return;
      }
      if (b == BACKSLASH || b == QUOTE && quotesToo) {
        push(BACKSLASH);
      }
      push(b);
    }

    void pushNumber(long number) {
      long above = number < 0 ? -number : number;
      if (number < 0) {
        push('-');
      }
      pushWhole(above / ONE);
      int rest = (int) (above % ONE);
      if (rest != 0) {
        push('.');
        push('0' + rest / 100);
      }
      if (rest % 100 != 0) {
        push('0' + rest / 10 % 10);
      }
      if (rest % 10 != 0) {
        push('0' + rest % 10);
      }
    }

    void pushWhole(long whole) {
      long power = 1;
      for (int k = 0; k < 18 && power <= whole / 10; k++) {
        power *= 10;
      }
      for (long p = power; p > 0; p /= 10) {
        push('0' + (int) (whole / p % 10));
      }
    }

    /** The first place of a byte from a place on, -1 if there is none. */
    int find(int b, int start) {
      for (int k = start < 0 ? 0 : start; k < size; k++) {
        if (bytes[k] == b) {
          return k;
        }
      }
      return -1;
    }

    boolean isLike(Row other) {
      if (size != other.size) {
        return false;
      }
      for (int k = 0; k < size; k++) {
        if (bytes[k] != other.bytes[k]) {
          return false;
        }
      }
      return true;
    }

    boolean spanIs(int start, int end, String text) {
      if (start < 0 || end > size || end - start != text.length()) {
        return false;
      }
      for (int k = start; k < end; k++) {
        if (bytes[k] != text.charAt(k - start)) {
          return false;
        }
      }
      return true;
    }

    /** Whether a span is a name with a text behind it: own names are looked at without being put together. */
    boolean spanIsJoined(int start, int end, Row name, String behind) {
      if (start < 0 || end > size || end - start != name.size + behind.length()) {
        return false;
      }
      for (int k = start; k < end; k++) {
        int n = k - start;
        int wanted = n < name.size ? name.bytes[n] : behind.charAt(n - name.size);
        if (bytes[k] != wanted) {
          return false;
        }
      }
      return true;
    }

    /** The order of two names that each end with a byte 1, which lies below all bytes of names. */
    int orderOfNames(int start, Row other, int otherStart) {
      for (int k = 0; start + k < size && otherStart + k < other.size; k++) {
        int mine = bytes[start + k];
        int theirs = other.bytes[otherStart + k];
        if (mine != theirs) {
          return mine < theirs ? -1 : 1;
        }
        if (mine == NAME_END) {
          return 0;
        }
      }
      return 0;
    }
  }

  /** Labels as on the tape, by rising names, so that two sets are the same if their rows are. */
  private static final class LabelSet {
    final Row row;
    int count;

    LabelSet(int most) {
      row = new Row(most * MOST_LABEL);
    }

    void clear() {
      row.size = 0;
      count = 0;
    }

    void become(LabelSet other) {
      row.size = 0;
      row.insertSpan(0, other.row, 0, other.row.size);
      count = other.count;
    }

    int textBytes() {
      return row.size - 2 * count;
    }

    /** Becomes the set that a row holds; false if it holds none of at most so many labels. */
    boolean take(Row from, int most) {
      clear();
      int start = 0;
      for (int k = 0; k < most && start < from.size; k++) {
        int nameEnd = from.find(NAME_END, start);
        int valueEnd = from.find(VALUE_END, start);
        if (!Sort.isName(true, from, start, nameEnd) || !Sort.isText(from, nameEnd + 1, valueEnd, MOST_VALUE)
            || insert(from, start, valueEnd + 1) < 0) {
          return false;
        }
        start = valueEnd + 1;
      }
      return start == from.size;
    }

    /** Puts a label of a row where it belongs: its place, or -1 if one with its name is there. */
    int insert(Row from, int start, int end) {
      int place = 0;
      for (int k = 0; k < count; k++) {
        int order = from.orderOfNames(start, row, place);
        if (order == 0) {
          return -1;
        }
        if (order < 0) {
          break;
        }
        place = row.find(VALUE_END, place) + 1;
      }
      row.insertSpan(place, from, start, end);
      count++;
      return place;
    }

    boolean hasExtraOf(Family family) {
      int start = 0;
      for (int k = 0; k < count; k++) {
        if (family.isExtra(row, start, row.find(NAME_END, start))) {
          return true;
        }
        start = row.find(VALUE_END, start) + 1;
      }
      return false;
    }
  }

  private static final class Exemplar {
    final LabelSet labels;
    boolean there;
    long number;
    long time;

    Exemplar() {
      labels = new LabelSet(MOST_EXEMPLAR_LABELS);
    }

    void clear() {
      there = false;
      labels.clear();
      number = 0;
      time = 0;
    }

    void become(LabelSet set, long v, long at) {
      there = true;
      labels.become(set);
      number = v;
      time = at;
    }

    boolean isLike(Exemplar other) {
      return there == other.there && number == other.number && time == other.time
          && labels.row.isLike(other.labels.row);
    }
  }

  /** What a child has of any kind; what its kind has not stays as it is at first. */
  private static final class Child {
    final LabelSet labels;
    final long[] counts;
    final Exemplar[] exemplars;
    boolean there;
    int family;
    long number;
    long created;
    int states;

    Child() {
      labels = new LabelSet(MOST_LABELS);
      counts = new long[MOST_BOUNDS + 1];
      exemplars = new Exemplar[MOST_BOUNDS + 1];
      for (int b = 0; b <= MOST_BOUNDS; b++) {
        exemplars[b] = new Exemplar();
      }
    }

    void begin(int ofFamily, LabelSet set, long time) {
      there = true;
      family = ofFamily;
      labels.become(set);
      created = time;
      number = 0;
      states = 0;
      for (int b = 0; b <= MOST_BOUNDS; b++) {
        counts[b] = 0;
        exemplars[b].clear();
      }
    }

    Exemplar exemplarAt(int b) {
      return b >= 0 && b < exemplars.length ? exemplars[b] : null;
    }

    long countAt(int b) {
      return b >= 0 && b < counts.length ? counts[b] : 0;
    }

    void count(int b, long more) {
      if (b >= 0 && b < counts.length) {
        counts[b] += more;
      }
    }

    void turnState(int state, boolean on) {
      int bit = 1 << state;
      states = on ? states | bit : states & ~bit;
    }

    long observations() {
      long sum = 0;
      for (int b = 0; b < counts.length; b++) {
        sum += counts[b];
      }
      return sum;
    }

    int exemplarCount() {
      int sum = 0;
      for (int b = 0; b < exemplars.length; b++) {
        sum += exemplars[b].there ? 1 : 0;
      }
      return sum;
    }

    boolean isLike(Child other) {
      boolean like = labels.row.isLike(other.labels.row) && number == other.number && created == other.created
          && states == other.states;
      for (int b = 0; like && b < counts.length; b++) {
        like = counts[b] == other.countAt(b) && exemplars[b].isLike(other.exemplars[b]);
      }
      return like;
    }
  }

  private static final class Family {
    final Row name;
    final Row unit;
    final Row help;
    final long[] bounds;
    final Row[] states;
    int kind;
    int boundCount;
    int stateCount;
    int mostChildren;
    boolean used;

    Family() {
      name = new Row(MOST_NAME);
      unit = new Row(MOST_UNIT);
      help = new Row(MOST_HELP);
      bounds = new long[MOST_BOUNDS];
      states = new Row[MOST_STATES];
      for (int k = 0; k < MOST_STATES; k++) {
        states[k] = new Row(MOST_VALUE);
      }
    }

    void begin(Row from, int start, int end) {
      name.become(from, start, end);
      unit.clear();
      help.clear();
      boundCount = 0;
      stateCount = 0;
      mostChildren = MOST_CHILDREN;
      used = false;
    }

    /** Becomes the family that a tape tells; false if it tells none. */
    boolean take(int ofKind, Row from) {
      int nameEnd = from.find(NAME_END, 0);
      int unitEnd = nameEnd < 0 ? -1 : from.find(NAME_END, nameEnd + 1);
      if (unitEnd < 0 || !Sort.isName(false, from, 0, nameEnd)
          || !Sort.isText(from, unitEnd + 1, from.size, MOST_HELP)) {
        return false;
      }
      begin(from, 0, nameEnd);
      kind = ofKind;
      help.become(from, unitEnd + 1, from.size);
      return unitEnd == nameEnd + 1 || takeUnit(from, nameEnd + 1, unitEnd);
    }

    /** Takes a unit, if the name ends with it as it must. */
    boolean takeUnit(Row from, int start, int end) {
      int before = name.size - (end - start) - 1;
      if (end - start > MOST_UNIT || before < 1 || kind == INFO || kind == STATESET || name.at(before) != '_') {
        return false;
      }
      for (int k = start; k < end; k++) {
        int b = from.at(k);
        if (!Sort.isOf(UNIT_BYTE, b) || name.at(before + 1 + k - start) != b) {
          return false;
        }
      }
      unit.become(from, start, end);
      return true;
    }

    static String kindText(int kind) {
      switch (kind) {
        case COUNTER: return "counter";
        case GAUGE: return "gauge";
        case HISTOGRAM: return "histogram";
        case INFO: return "info";
        default: return "stateset";
      }
    }

    static String partText(int part) {
      switch (part) {
        case TOTAL: return "_total";
        case CREATED: return "_created";
        case BUCKET: return "_bucket";
        case COUNT: return "_count";
        case SUM: return "_sum";
        case FACT: return "_info";
        default: return "";
      }
    }

    /** The kind that a text tells, -1 if it is none. */
    static int kindTold(Row row, int start, int end) {
      for (int kind = 0; kind < KINDS; kind++) {
        if (row.spanIs(start, end, kindText(kind))) {
          return kind;
        }
      }
      return -1;
    }

    boolean isLike(Family other) {
      return kind == other.kind && name.isLike(other.name) && unit.isLike(other.unit) && help.isLike(other.help);
    }

    boolean hasLikeParts(Family other) {
      if (boundCount != other.boundCount || stateCount != other.stateCount) {
        return false;
      }
      for (int k = 0; k < boundCount && k < MOST_BOUNDS; k++) {
        if (bounds[k] != other.bounds[k]) {
          return false;
        }
      }
      for (int k = 0; k < stateCount && k < MOST_STATES; k++) {
        if (!states[k].isLike(other.states[k])) {
          return false;
        }
      }
      return true;
    }

    boolean hasPart(int part) {
      switch (part) {
        case TOTAL: return kind == COUNTER;
        case CREATED: return kind == COUNTER || kind == HISTOGRAM;
        case BUCKET: return kind == HISTOGRAM;
        case COUNT: return kind == HISTOGRAM;
        case SUM: return kind == HISTOGRAM;
        case FACT: return kind == INFO;
        default: return true;
      }
    }

    boolean owns(Row wanted) {
      for (int part = 0; part < PARTS; part++) {
        if (hasPart(part) && wanted.spanIsJoined(0, wanted.size, name, partText(part))) {
          return true;
        }
      }
      return false;
    }

    /** Whether a label's name is the one that a sample of this family has for itself. */
    boolean isExtra(Row from, int start, int end) {
      if (kind == HISTOGRAM) {
        return from.spanIs(start, end, "le");
      }
      return kind == STATESET && from.spanIsJoined(start, end, name, "");
    }

    boolean risesTo(long bound) {
      return boundCount == 0 || boundCount <= MOST_BOUNDS && bound > bounds[boundCount - 1];
    }

    void pushBound(long bound) {
      if (boundCount < MOST_BOUNDS) {
        bounds[boundCount] = bound;
        boundCount++;
      }
    }

    boolean hasStateUpTo(int count, Row text) {
      for (int k = 0; k < count && k < MOST_STATES; k++) {
        if (states[k].isLike(text)) {
          return true;
        }
      }
      return false;
    }

    boolean hasStateAt(int k, Row text) {
      return k >= 0 && k < stateCount && k < MOST_STATES && states[k].isLike(text);
    }

    void pushState(Row text) {
      if (stateCount < MOST_STATES) {
        states[stateCount].become(text, 0, text.size);
        stateCount++;
      }
    }

    /** The number of the least bound that is not below a number, or of what lies beyond all. */
    int bucketOf(long v) {
      int b = 0;
      for (int k = 0; k < boundCount && k < MOST_BOUNDS; k++) {
        b += bounds[k] < v ? 1 : 0;
      }
      return b;
    }

    int bucketCount() {
      return kind == HISTOGRAM ? boundCount + 1 : kind == COUNTER ? 1 : 0;
    }

    long boundAt(int b) {
      return b >= 0 && b < boundCount && b < MOST_BOUNDS ? bounds[b] : 0;
    }
  }

  /** Families and children; one family more than there may be is room for one that is not yet kept. */
  private static final class Sheet {
    final Family[] families;
    final Child[] children;
    /** The numbers of the children in the order in which they were made. */
    final int[] inOrder;
    final Row ownName;
    int familyCount;
    int childCount;

    Sheet() {
      families = new Family[MOST_FAMILIES + 1];
      for (int k = 0; k <= MOST_FAMILIES; k++) {
        families[k] = new Family();
      }
      children = new Child[MOST_CHILDREN];
      for (int k = 0; k < MOST_CHILDREN; k++) {
        children[k] = new Child();
      }
      inOrder = new int[MOST_CHILDREN];
      ownName = new Row(MOST_OWN_NAME);
    }

    void clear() {
      familyCount = 0;
      childCount = 0;
      for (int k = 0; k < MOST_CHILDREN; k++) {
        children[k].there = false;
      }
    }

    Family spareFamily() {
      return families[familyCount < MOST_FAMILIES ? familyCount : MOST_FAMILIES];
    }

    int keepSpareFamily() {
      if (familyCount < MOST_FAMILIES) {
        familyCount++;
      }
      return familyCount - 1;
    }

    Family familyAt(int number) {
      return number >= 0 && number < familyCount ? families[number] : null;
    }

    int findFamilyLike(Family wanted) {
      for (int k = 0; k < familyCount; k++) {
        if (families[k].isLike(wanted)) {
          return k;
        }
      }
      return -1;
    }

    boolean clashes(Family fresh) {
      for (int part = 0; part < PARTS; part++) {
        if (fresh.hasPart(part)) {
          ownName.become(fresh.name, 0, fresh.name.size);
          ownName.pushText(Family.partText(part));
          if (isOwned()) {
            return true;
          }
        }
      }
      return false;
    }

    boolean isOwned() {
      for (int k = 0; k < familyCount; k++) {
        if (families[k].owns(ownName)) {
          return true;
        }
      }
      return false;
    }

    Child childAt(int number) {
      return number >= 0 && number < MOST_CHILDREN && children[number].there ? children[number] : null;
    }

    /** The child that was made as the k-th of those that are there. */
    Child childInOrder(int k) {
      return k >= 0 && k < childCount && k < MOST_CHILDREN ? childAt(inOrder[k]) : null;
    }

    int findChild(int family, LabelSet set) {
      for (int k = 0; k < MOST_CHILDREN; k++) {
        if (children[k].there && children[k].family == family && children[k].labels.row.isLike(set.row)) {
          return k;
        }
      }
      return -1;
    }

    int childrenOf(int family) {
      int count = 0;
      for (int k = 0; k < MOST_CHILDREN; k++) {
        count += children[k].there && children[k].family == family ? 1 : 0;
      }
      return count;
    }

    /** Begins a child with the least number that is free; -1 if there is none. */
    int beginChild(int family, LabelSet set, long created) {
      for (int k = 0; k < MOST_CHILDREN; k++) {
        if (!children[k].there && childCount < MOST_CHILDREN) {
          children[k].begin(family, set, created);
          inOrder[childCount] = k;
          childCount++;
          return k;
        }
      }
      return -1;
    }

    void dropChild(int number) {
      int stay = 0;
      for (int k = 0; k < childCount && k < MOST_CHILDREN; k++) {
        if (inOrder[k] == number) {
          children[number].there = false;
        } else {
          inOrder[stay] = inOrder[k];
          stay++;
        }
      }
      childCount = stay;
    }

    Child childOfKind(int kind, int number) {
      Child child = childAt(number);
      return child != null && parentOf(child).kind == kind ? child : null;
    }

    Family parentOf(Child child) {
      return families[child.family];
    }

    int exemplarCount() {
      int count = 0;
      for (int k = 0; k < MOST_CHILDREN; k++) {
        count += children[k].there ? children[k].exemplarCount() : 0;
      }
      return count;
    }

    boolean isLike(Sheet other) {
      if (familyCount != other.familyCount || childCount != other.childCount) {
        return false;
      }
      for (int k = 0; k < familyCount; k++) {
        boolean like = families[k].isLike(other.families[k]) && hasLikeChildren(k, other);
        if (!like || childrenOf(k) > 0 && !families[k].hasLikeParts(other.families[k])) {
          return false;
        }
      }
      return true;
    }

    boolean hasLikeChildren(int family, Sheet other) {
      int theirs = 0;
      for (int k = 0; k < childCount; k++) {
        Child child = childInOrder(k);
        if (child != null && child.family == family) {
          theirs = other.nextOf(family, theirs);
          Child twin = other.childInOrder(theirs);
          if (twin == null || !child.isLike(twin)) {
            return false;
          }
          theirs++;
        }
      }
      return other.nextOf(family, theirs) == other.childCount;
    }

    /** The first place in the order, from a place on, at which a child of a family stands; behind all if none does. */
    int nextOf(int family, int from) {
      for (int k = from; k < childCount; k++) {
        Child child = childInOrder(k);
        if (child != null && child.family == family) {
          return k;
        }
      }
      return childCount;
    }
  }

  /** Writes a sheet; full tells the form that has all, 0, from the lesser one, 1. */
  private static final class SheetWriter {
    final Row out;
    Family family;
    boolean full;

    SheetWriter(Row row) {
      out = row;
    }

    int writeSheet(Sheet sheet, boolean inFull) {
      full = inFull;
      out.clear();
      for (int k = 0; k < sheet.familyCount; k++) {
        family = sheet.families[k];
        writeHead();
        for (int c = 0; c < sheet.childCount; c++) {
          Child child = sheet.childInOrder(c);
          if (child != null && child.family == k) {
            writeChild(child);
          }
        }
      }
      if (full) {
        out.pushText("# EOF\n");
      }
      if (out.over) {
        out.clear();
      }
      return out.size;
    }

    void writeHead() {
      if (full) {
        writeType();
        if (family.unit.size > 0) {
          startHead("# UNIT ");
          pushRow(family.unit);
          out.push(LINE_END);
        }
        writeHelp();
      } else {
        writeHelp();
        writeType();
      }
    }

    void writeType() {
      startHead("# TYPE ");
      out.pushText(Family.kindText(!full && (family.kind == INFO || family.kind == STATESET) ? GAUGE : family.kind));
      out.push(LINE_END);
    }

    void writeHelp() {
      if (family.help.size == 0) {
        return;
      }
      startHead("# HELP ");
      for (int k = 0; k < family.help.size; k++) {
        out.pushEscaped(family.help.at(k), full);
      }
      out.push(LINE_END);
    }

    void startHead(String word) {
      out.pushText(word);
      pushRow(family.name);
      if (!full && family.kind == COUNTER) {
        out.pushText(Family.partText(TOTAL));
      }
      if (!full && family.kind == INFO) {
        out.pushText(Family.partText(FACT));
      }
      out.push(' ');
    }

    void writeChild(Child child) {
      switch (family.kind) {
        case COUNTER:
          writeTotal(child);
          break;
        case GAUGE:
          writeSample(child, PLAIN, child.number);
          break;
        case HISTOGRAM:
          writeBuckets(child);
          writeSample(child, COUNT, child.observations() * ONE);
          writeSample(child, SUM, child.number);
          break;
        case INFO:
          writeSample(child, FACT, ONE);
          break;
        default:
          writeStates(child);
          break;
      }
      if (full && child.created >= 0) {
        writeSample(child, CREATED, child.created);
      }
    }

    void writeTotal(Child child) {
      startSample(child, TOTAL, false);
      out.pushNumber(child.number);
      writeExemplar(child.exemplarAt(0));
      out.push(LINE_END);
    }

    void writeBuckets(Child child) {
      long upTo = 0;
      for (int b = 0; b < family.bucketCount(); b++) {
        upTo += child.countAt(b);
        startSample(child, BUCKET, true);
        out.pushText("le=\"");
        if (b < family.boundCount) {
          out.pushNumber(family.boundAt(b));
        } else {
          out.pushText("+Inf");
        }
        out.pushText("\"} ");
        out.pushNumber(upTo * ONE);
        writeExemplar(child.exemplarAt(b));
        out.push(LINE_END);
      }
    }

    void writeStates(Child child) {
      for (int k = 0; k < family.stateCount && k < MOST_STATES; k++) {
        startSample(child, PLAIN, true);
        pushRow(family.name);
        out.pushText("=\"");
        for (int n = 0; n < family.states[k].size; n++) {
          out.pushEscaped(family.states[k].at(n), true);
        }
        out.pushText("\"} ");
        out.push((child.states & 1 << k) != 0 ? '1' : '0');
        out.push(LINE_END);
      }
    }

    void writeSample(Child child, int part, long value) {
      startSample(child, part, false);
      out.pushNumber(value);
      out.push(LINE_END);
    }

    /** Writes a sample's name and labels; where one more is to come the braces stay open. */
    void startSample(Child child, int part, boolean oneMore) {
      boolean labelled = child.labels.count > 0;
      pushRow(family.name);
      out.pushText(Family.partText(part));
      if (labelled || oneMore) {
        out.push('{');
      }
      writeLabels(child.labels);
      if (oneMore) {
        out.pushText(labelled ? "," : "");
      } else {
        out.pushText(labelled ? "} " : " ");
      }
    }

    void writeLabels(LabelSet set) {
      for (int k = 0; k < set.row.size; k++) {
        int b = set.row.at(k);
        if (b == NAME_END) {
          out.pushText("=\"");
        } else if (b == VALUE_END) {
          out.pushText(k + 1 < set.row.size ? "\"," : "\"");
        } else {
          out.pushEscaped(b, true);
        }
      }
    }

    void writeExemplar(Exemplar exemplar) {
      if (!full || exemplar == null || !exemplar.there) {
        return;
      }
      out.pushText(" # {");
      writeLabels(exemplar.labels);
      out.pushText("} ");
      out.pushNumber(exemplar.number);
      out.push(' ');
      out.pushNumber(exemplar.time);
    }

    void pushRow(Row row) {
      out.insertSpan(out.size, row, 0, row.size);
    }
  }

  /** Goes over a row byte by byte; each of its methods that answers false has told the fault. */
  private static final class Cursor {
    final Row tape;
    int at;
    int fault;
    int place;
    long number;

    Cursor(Row row) {
      tape = row;
      place = -1;
    }

    void begin() {
      at = 0;
      fault = 0;
      place = -1;
    }

    boolean fail(int what, int where) {
      fault = what;
      place = where;
      return false;
    }

    boolean sees(int b) {
      return tape.at(at) == b;
    }

    /** Goes over a byte, if it is there. */
    boolean passes(int b) {
      boolean there = tape.at(at) == b;
      at += there ? 1 : 0;
      return there;
    }

    boolean expect(int b) {
      if (tape.at(at) != b) {
        return fail(SYNTAX, at);
      }
      at++;
      return true;
    }

    /** Goes over a run of a sort, which may be empty: where it began. */
    int passRun(int sort) {
      int start = at;
      while (at < tape.size && Sort.isOf(sort, tape.at(at))) {
        at++;
      }
      return start;
    }

    boolean readNumber() {
      int start = at;
      boolean below = passes('-');
      int whole = passRun(DIGIT);
      int wholeEnd = at;
      if (wholeEnd == whole) {
        return fail(SYNTAX, at);
      }
      boolean pointed = passes('.');
      int rest = passRun(DIGIT);
      if (pointed && at == rest) {
        return fail(SYNTAX, at);
      }
      if (wholeEnd - whole > MOST_WHOLE_DIGITS || pointed && at - rest > REST_DIGITS) {
        return fail(VALUE, start);
      }
      long size = digits(whole, wholeEnd, wholeEnd - whole) * ONE + digits(rest, at, REST_DIGITS);
      number = below ? -size : size;
      return true;
    }

    /** What so many digits make, with 0s for those that are missing at the end. */
    long digits(int start, int end, int count) {
      long sum = 0;
      for (int k = start; k < start + count; k++) {
        sum = sum * 10 + (k < end ? tape.at(k) - '0' : 0);
      }
      return sum;
    }

    /** Reads escaped bytes up to an end, which stays: how many, or -1 behind a fault; the row keeps the first ones. */
    int readEscaped(int end, Row into) {
      into.clear();
      int count = 0;
      while (at < tape.size && tape.at(at) != end) {
        int b = tape.at(at);
        if (b == BACKSLASH) {
          at++;
          b = unescaped(tape.at(at));
        } else if (b < 32 || b > 126 || b == QUOTE) {
          b = -1;
        }
        if (b < 0) {
          fail(SYNTAX, at);
          return -1;
        }
        into.push(b);
        count++;
        at++;
      }
      if (at >= tape.size) {
        fail(SYNTAX, tape.size);
        return -1;
      }
      return count;
    }

    static int unescaped(int b) {
      return b == 'n' ? LINE_END : b == QUOTE || b == BACKSLASH ? b : -1;
    }
  }

  /** Reads the labels of a sample or of an exemplar. */
  private static final class LabelsReader {
    final Cursor scan;
    final LabelSet set;
    final Row label;
    final Row value;
    /** The value of the one label more that a sample has, and where it begins: -1 if it is not there. */
    final Row extra;
    int extraPlace;
    int nameStart;
    int nameEnd;
    int valueStart;
    boolean isExtra;

    LabelsReader(Cursor cursor) {
      scan = cursor;
      set = new LabelSet(MOST_LABELS);
      label = new Row(MOST_LABEL);
      value = new Row(MOST_BOUND_VALUE);
      extra = new Row(MOST_BOUND_VALUE);
    }

    void clear() {
      set.clear();
      extraPlace = -1;
    }

    /** Reads labels up to the closing brace, one at least; the family, if one is given, says what the one more is. */
    boolean readLabels(Family family, int most) {
      for (int k = 0; k <= most + 1; k++) {
        if (!readName(family) || !readValue(family) || !keepLabel(most)) {
          return false;
        }
        if (!scan.passes(',')) {
          return scan.expect('}');
        }
      }
      return scan.fail(LABEL, nameStart);
    }

    boolean readName(Family family) {
      nameStart = scan.passRun(NAME_BYTE);
      nameEnd = scan.at;
      if (nameStart == nameEnd) {
        return scan.fail(SYNTAX, nameStart);
      }
      isExtra = family != null && extraPlace < 0 && family.isExtra(scan.tape, nameStart, nameEnd);
      return scan.expect('=') && scan.expect(QUOTE);
    }

    boolean readValue(Family family) {
      valueStart = scan.at;
      int count = scan.readEscaped(QUOTE, value);
      if (count < 0) {
        return false;
      }
      boolean isBound = isExtra && family != null && family.kind == HISTOGRAM;
      if (count > (isBound ? MOST_BOUND_VALUE : MOST_VALUE)) {
        return scan.fail(LONG, valueStart);
      }
      return scan.expect(QUOTE);
    }

    boolean keepLabel(int most) {
      if (isExtra) {
        extraPlace = valueStart;
        extra.become(value, 0, value.size);
        return true;
      }
      if (extraPlace >= 0 || set.count >= most || !Sort.isName(true, scan.tape, nameStart, nameEnd)) {
        return scan.fail(LABEL, nameStart);
      }
      label.become(scan.tape, nameStart, nameEnd);
      label.push(NAME_END);
      label.insertSpan(label.size, value, 0, value.size);
      label.push(VALUE_END);
      int behind = set.row.size;
      return set.insert(label, 0, label.size) == behind || scan.fail(LABEL, nameStart);
    }
  }

  /** Reads a text of form 0 into a sheet and stops at the first fault. */
  private static final class SheetReader {
    final Cursor scan;
    final LabelsReader labels;
    final Sheet sheet;
    final Cursor boundScan;
    final Row spelled;
    Family family;
    Child child;
    int familyNumber;
    int nameStart;
    int part;
    /** The sample that is due next; at a whole child it is the first one of another. */
    int due;
    boolean whole;
    boolean mayBeCreated;
    /** Whether the child is the family's first, and whether it, of a stateset, may still get states. */
    boolean first;
    boolean open;
    /** How many buckets or states of the child have been read, and how many observations fell to those. */
    int step;
    long upTo;
    /** Which head line stands just before: TYPE_LINE, UNIT_LINE, or another or none. */
    int lineBefore;
    boolean ended;

    SheetReader(Cursor cursor, Sheet into) {
      scan = cursor;
      sheet = into;
      labels = new LabelsReader(cursor);
      boundScan = new Cursor(labels.extra);
      spelled = new Row(MOST_BOUND_VALUE);
    }

    int readSheet() {
      scan.begin();
      sheet.clear();
      family = null;
      whole = true;
      lineBefore = OTHER_LINE;
      ended = false;
      boolean good = true;
      for (int line = 0; good && !ended && line <= MOST_TAPE; line++) {
        good = scan.sees('#') ? readHead() : readSample() && readExemplar() && endSample();
      }
      if (!good) {
        sheet.clear();
      }
      return scan.fault;
    }

    boolean readHead() {
      int start = scan.at;
      if (!scan.expect('#') || !scan.expect(' ')) {
        return false;
      }
      int word = scan.passRun(UPPER);
      if (scan.tape.spanIs(word, scan.at, "EOF")) {
        return readEnd(start);
      }
      if (scan.tape.spanIs(word, scan.at, "TYPE")) {
        return readType(start);
      }
      if (scan.tape.spanIs(word, scan.at, "UNIT")) {
        return readUnit(start);
      }
      if (scan.tape.spanIs(word, scan.at, "HELP")) {
        return readHelp(start);
      }
      return scan.fail(SYNTAX, word);
    }

    boolean readEnd(int start) {
      if (!whole) {
        return scan.fail(ORDER, start);
      }
      if (!scan.expect(LINE_END)) {
        return false;
      }
      if (scan.at < scan.tape.size) {
        return scan.fail(SYNTAX, scan.at);
      }
      ended = true;
      return true;
    }

    boolean readType(int start) {
      if (!whole) {
        return scan.fail(ORDER, start);
      }
      if (!scan.expect(' ')) {
        return false;
      }
      int name = scan.passRun(NAME_BYTE);
      if (!Sort.isName(false, scan.tape, name, scan.at)) {
        return scan.fail(NAME, name);
      }
      if (sheet.familyCount >= MOST_FAMILIES) {
        return scan.fail(FULL, name);
      }
      Family fresh = sheet.spareFamily();
      fresh.begin(scan.tape, name, scan.at);
      if (!scan.expect(' ')) {
        return false;
      }
      int kind = scan.passRun(LOWER);
      fresh.kind = Family.kindTold(scan.tape, kind, scan.at);
      if (fresh.kind < 0) {
        return scan.fail(KIND, kind);
      }
      if (sheet.clashes(fresh)) {
        return scan.fail(CLASH, name);
      }
      beginFamily(fresh);
      return scan.expect(LINE_END);
    }

    void beginFamily(Family fresh) {
      family = fresh;
      familyNumber = sheet.keepSpareFamily();
      child = null;
      due = firstPart(fresh.kind);
      mayBeCreated = false;
      lineBefore = TYPE_LINE;
    }

    static int firstPart(int kind) {
      switch (kind) {
        case COUNTER: return TOTAL;
        case HISTOGRAM: return BUCKET;
        case INFO: return FACT;
        default: return PLAIN;
      }
    }

    boolean readUnit(int start) {
      if (lineBefore != TYPE_LINE) {
        return scan.fail(ORDER, start);
      }
      if (!readFamilyName() || !scan.expect(' ')) {
        return false;
      }
      int unit = scan.passRun(UNIT_BYTE);
      if (scan.at == unit) {
        return scan.fail(SYNTAX, unit);
      }
      if (!family.takeUnit(scan.tape, unit, scan.at)) {
        return scan.fail(UNIT, unit);
      }
      lineBefore = UNIT_LINE;
      return scan.expect(LINE_END);
    }

    boolean readHelp(int start) {
      if (lineBefore == OTHER_LINE) {
        return scan.fail(ORDER, start);
      }
      if (!readFamilyName() || !scan.expect(' ')) {
        return false;
      }
      int help = scan.at;
      int count = scan.readEscaped(LINE_END, family.help);
      if (count < 0) {
        return false;
      }
      if (count == 0) {
        return scan.fail(SYNTAX, help);
      }
      if (count > MOST_HELP) {
        return scan.fail(LONG, help);
      }
      lineBefore = OTHER_LINE;
      return scan.expect(LINE_END);
    }

    /** Reads a space and a name that must be the family's. */
    boolean readFamilyName() {
      if (!scan.expect(' ')) {
        return false;
      }
      int name = scan.passRun(NAME_BYTE);
      return family != null && scan.tape.spanIsJoined(name, scan.at, family.name, "") || scan.fail(NAME, name);
    }

    /** Reads a sample up to its number. */
    boolean readSample() {
      lineBefore = OTHER_LINE;
      return readName() && readLabels() && findChild() && takeBound() && takeState() && readValue();
    }

    boolean readName() {
      nameStart = scan.passRun(NAME_BYTE);
      if (scan.at == nameStart) {
        return scan.fail(SYNTAX, nameStart);
      }
      if (family == null) {
        return scan.fail(ORDER, nameStart);
      }
      part = isNamed(due) || !mayBeCreated ? due : CREATED;
      return isNamed(part) || scan.fail(NAME, nameStart);
    }

    boolean isNamed(int wanted) {
      return scan.tape.spanIsJoined(nameStart, scan.at, family.name, Family.partText(wanted));
    }

    boolean hasExtra() {
      return part == BUCKET || family.kind == STATESET;
    }

    boolean readLabels() {
      labels.clear();
      if (scan.passes('{') && !labels.readLabels(hasExtra() ? family : null, MOST_LABELS)) {
        return false;
      }
      return !hasExtra() || labels.extraPlace >= 0 || scan.fail(LABEL, nameStart);
    }

    /** Finds the child that a sample is of, or begins one. */
    boolean findChild() {
      boolean sameSet = child != null && child.labels.row.isLike(labels.set.row);
      if (part == CREATED || !whole) {
        return sameSet || scan.fail(CHILD, nameStart);
      }
      if (open && sameSet) {
        return true;
      }
      if (sheet.findChild(familyNumber, labels.set) >= 0) {
        return scan.fail(TWICE, nameStart);
      }
      Child fresh = sheet.childAt(sheet.beginChild(familyNumber, labels.set, -1));
      if (fresh == null) {
        return scan.fail(FULL, nameStart);
      }
      first = child == null;
      child = fresh;
      step = 0;
      upTo = 0;
      return true;
    }

    /** Takes the one more of a bucket; the family's first child makes its bounds, the others must have them. */
    boolean takeBound() {
      if (part != BUCKET) {
        return true;
      }
      boolean beyond = labels.extra.spanIs(0, labels.extra.size, "+Inf");
      if (!beyond && !isSpelledNumber()) {
        return scan.fail(VALUE, labels.extraPlace);
      }
      long bound = boundScan.number;
      if (beyond ? step != family.boundCount : !mayHaveBound(bound)) {
        return scan.fail(BUCKETS, labels.extraPlace);
      }
      if (first && !beyond) {
        family.pushBound(bound);
      }
      return true;
    }

    boolean mayHaveBound(long bound) {
      if (first) {
        return step < MOST_BOUNDS && family.risesTo(bound);
      }
      return step < family.boundCount && bound == family.boundAt(step);
    }

    /** Whether the one more's value is a number just as it is written. */
    boolean isSpelledNumber() {
      boundScan.begin();
      if (!boundScan.readNumber()) {
        return false;
      }
      spelled.clear();
      spelled.pushNumber(boundScan.number);
      return spelled.isLike(labels.extra);
    }

    /** Takes the one more of a stateset's sample, as takeBound does that of a bucket. */
    boolean takeState() {
      if (family.kind != STATESET) {
        return true;
      }
      if (family.hasStateUpTo(step, labels.extra)) {
        return scan.fail(TWICE, labels.extraPlace);
      }
      if (!first) {
        return family.hasStateAt(step, labels.extra) || scan.fail(CHILD, labels.extraPlace);
      }
      if (step >= MOST_STATES) {
        return scan.fail(FULL, labels.extraPlace);
      }
      family.pushState(labels.extra);
      return true;
    }

    boolean readValue() {
      if (!scan.expect(' ')) {
        return false;
      }
      int start = scan.at;
      if (!scan.readNumber()) {
        return false;
      }
      if (!isValueRight(scan.number)) {
        return scan.fail(VALUE, start);
      }
      long count = scan.number / ONE;
      if (part == BUCKET && count < upTo || part == COUNT && count != upTo) {
        return scan.fail(BUCKETS, start);
      }
      keepValue(scan.number);
      return true;
    }

    boolean isValueRight(long v) {
      switch (part) {
        case TOTAL: return v >= 0;
        case CREATED: return v >= 0;
        case BUCKET: return v >= 0 && v % ONE == 0;
        case COUNT: return v >= 0 && v % ONE == 0;
        case FACT: return v == ONE;
        case SUM: return true;
        default: return family.kind != STATESET || v == ONE || v == 0;
      }
    }

    void keepValue(long v) {
      if (part == CREATED) {
        child.created = v;
      } else if (part == BUCKET) {
        child.count(step, v / ONE - upTo);
        upTo = v / ONE;
      } else if (family.kind == STATESET) {
        child.turnState(step, v == ONE);
      } else if (part == TOTAL || part == SUM || part == PLAIN) {
        child.number = v;
      }
    }

    boolean readExemplar() {
      if (part != TOTAL && part != BUCKET || !scan.passes(' ')) {
        return true;
      }
      if (!scan.expect('#') || !scan.expect(' ')) {
        return false;
      }
      int brace = scan.at;
      if (!scan.expect('{')) {
        return false;
      }
      labels.clear();
      if (!scan.passes('}') && !labels.readLabels(null, MOST_EXEMPLAR_LABELS)) {
        return false;
      }
      if (labels.set.textBytes() > MOST_EXEMPLAR_BYTES) {
        return scan.fail(LONG, brace);
      }
      return readExemplarNumbers(child.exemplarAt(part == TOTAL ? 0 : step));
    }

    boolean readExemplarNumbers(Exemplar exemplar) {
      if (!scan.expect(' ')) {
        return false;
      }
      int start = scan.at;
      if (!scan.readNumber()) {
        return false;
      }
      long number = scan.number;
      if (exemplar == null || !isExemplarRight(number)) {
        return scan.fail(EXEMPLAR, start);
      }
      if (!scan.expect(' ')) {
        return false;
      }
      start = scan.at;
      if (!scan.readNumber()) {
        return false;
      }
      if (scan.number < 0) {
        return scan.fail(VALUE, start);
      }
      exemplar.become(labels.set, number, scan.number);
      return true;
    }

    boolean isExemplarRight(long v) {
      if (part == TOTAL) {
        return v >= 0;
      }
      boolean above = step == 0 || v > family.boundAt(step - 1);
      boolean within = step >= family.boundCount || v <= family.boundAt(step);
      return above && within && child.countAt(step) > 0;
    }

    boolean endSample() {
      if (!scan.expect(LINE_END)) {
        return false;
      }
      mayBeCreated = part == TOTAL || part == SUM;
      if (part == BUCKET) {
        due = step == family.boundCount ? COUNT : BUCKET;
        step++;
      } else if (part == COUNT) {
        due = SUM;
      } else if (part == SUM) {
        due = BUCKET;
      } else if (family.kind == STATESET) {
        step++;
      }
      open = first && family.kind == STATESET;
      whole = part != BUCKET && part != COUNT && (family.kind != STATESET || open || step == family.stateCount);
      return true;
    }
  }
}
