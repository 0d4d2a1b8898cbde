/** Each edge that the document names for promises 35 to 44: bodies, their acts, shelves. */
public final class EdgesShelvesTest {
  private static final int BAD = -1, FULL = -3;
  private static final int MIN = Integer.MIN_VALUE, MAX = Integer.MAX_VALUE;
  private static final long NONE = Long.MIN_VALUE;
  private static final Due due = new Due("EdgesShelvesTest");

  public static void main(String[] args) {
    bodyOfKinds();
    bodiesAreFull();
    actOfBodies();
    actWithInts();
    noSuchAct();
    traceOfTheLatest();
    longestTrace();
    keepOnShelves();
    keepBodies();
    rowOnShelves();
    rowSorts();
    rowSizes();
    rowIsNew();
    putOnShelves();
    putPlaces();
    putLowestBits();
    elementOnShelves();
    elementPlaces();
    shiftOnShelves();
    shiftSorts();
    shiftPlaces();
    shiftAsTheyWere();
    takenOnShelves();
    takenKinds();
    countWhat();
    countEnds();
    due.end();
  }

  private static void bodyOfKinds() {
    due.promise(35);
    due.says("A BODY of a KIND (0 .. 7): its number. BAD");
    HeldTillSet x = new HeldTillSet();
    for (int kind : new int[] {MIN, -1, 8, 9, MAX}) {
      due.is("body(" + kind + ")", x.body(kind), BAD);
    }
    due.is("none came", x.count(3), 0);
    for (int kind = 0; kind <= 7; kind++) {
      due.is("body(" + kind + ")", x.body(kind), kind);
      x.keep(0, kind);
      due.is("its KIND", x.taken(0, 0), kind);
    }
  }

  private static void bodiesAreFull() {
    due.promise(35);
    due.says("BODIES 0 .. 49; FULL");
    HeldTillSet x = new HeldTillSet();
    for (int i = 0; i <= 49; i++) {
      due.is("how many", x.count(3), i);
      due.is("body", x.body(7 - i % 8), i);
    }
    for (int kind = 0; kind <= 7; kind++) {
      due.is("a fifty-first", x.body(kind), FULL);
    }
    due.is("no kind is ahead of FULL", x.body(8), BAD);
    due.is("no kind is ahead of FULL", x.body(-1), BAD);
    due.is("how many", x.count(3), 50);
    due.is("the last one is kept", x.keep(0, 49), 1);
    due.is("its KIND", x.taken(0, 0), 6);
    due.is("its number is 49", x.act(49, 2, 0), 49);
  }

  private static void actOfBodies() {
    due.promise(36);
    due.says("0: no such BODY, ACT (0 .. 3)");
    HeldTillSet x = new HeldTillSet();
    due.is("no bodies", x.act(0, 0, 5), 0);
    for (int i = 0; i < 50; i++) {
      due.is("not yet", x.act(i, 0, 100), 0);
      x.body(0);
      due.is("x + n", x.act(i, 0, 100), 100 + i);
      due.is("twice", x.act(i, 1, 100), 200 + 2 * i);
      due.is("x ^ n", x.act(i, 2, 100), 100 ^ i);
      due.is("holds(x) - sets(1)", x.act(i, 3, 100), 200 + 2 * i - (1 ^ i));
    }
    for (int body : new int[] {MIN, -1, 50, 51, MAX}) {
      for (int act = 0; act <= 3; act++) {
        due.is("act(" + body + ", " + act + ", 100)", x.act(body, act, 100), 0);
      }
    }
    for (int act : new int[] {MIN, -1, 4, 5, MAX}) {
      due.is("act(49, " + act + ", 100)", x.act(49, act, 100), 0);
    }
  }

  /** For body 1 of each kind: fits, holds, sets and tells, worked out by hand from the document's bodies of acts. */
  private static int by(int kind, int act, int x) {
    int n = 1;
    int fits = kind == 1 || kind == 4 ? x + n + 3 : kind == 6 ? (x + n) * 2 : kind == 7 ? (x + n) * 2 - 1 : x + n;
    int sets = kind == 3 ? (x ^ n) * 3 : kind == 5 ? (x ^ n) * 3 - (2 + n) : x ^ n;
    switch (act) {
      case 0: return fits;
      case 1:
        switch (kind) {
          case 2: return -(fits * 2);
          case 3: case 5: return -((x + 1 + n) * 2);
          case 7: return fits * 2 + (2 ^ n);
          default: return fits * 2;
        }
      case 2: return sets;
      default:
        int tells = by(kind, 1, x) - by(kind, 2, 1);
        return kind == 4 ? tells ^ 5 : kind == 5 ? tells + 1 : tells;
    }
  }

  private static void actWithInts() {
    due.promise(36);
    due.says("x (an int that wraps)");
    for (int kind = 0; kind <= 7; kind++) {
      HeldTillSet x = new HeldTillSet();
      x.body(0);
      x.body(kind);
      for (int v : new int[] {MIN, MIN + 1, MIN + 2, -1 << 30, -2, -1, 0, 1, 2, 1 << 30, MAX - 3, MAX - 2, MAX - 1, MAX}) {
        for (int act = 0; act <= 3; act++) {
          due.is("kind " + kind + ", act " + act + ", " + v, x.act(1, act, v), by(kind, act, v));
        }
      }
    }
  }

  private static void noSuchAct() {
    due.promise(36);
    due.says("0, and no TRACE then: no such BODY, ACT");
    int[][] none = {{-1, 0}, {1, 0}, {MIN, 3}, {MAX, 3}, {0, -1}, {0, 4}, {0, MIN}, {0, MAX}, {-1, -1}};
    for (int[] n : none) {
      HeldTillSet x = new HeldTillSet();
      x.body(0);
      x.act(0, 3, 1);
      due.is("ran", x.count(4), 4);
      due.is("no such", x.act(n[0], n[1], 9), 0);
      due.is("none ran", x.count(4), 0);
      for (int i = 0; i < 4; i++) {
        due.is("no trace", x.trace(i), BAD);
      }
    }
  }

  private static void traceOfTheLatest() {
    due.promise(37);
    due.says("THE TRACE's i-th body. BAD; in the latest act(), as they began");
    HeldTillSet x = new HeldTillSet();
    for (int i : new int[] {MIN, -1, 0, 1, 23, 24, MAX}) {
      due.is("none ran, trace(" + i + ")", x.trace(i), BAD);
    }
    x.body(0);
    x.body(5);
    int[][] traces = {{1}, {10, 1}, {11}, {2, 10, 1, 11}};
    for (int act = 0; act <= 3; act++) {
      x.act(1, 3, 7);
      x.act(0, act, 7);
      for (int i = 0; i < traces[act].length; i++) {
        due.is("act " + act + ", trace(" + i + ")", x.trace(i), traces[act][i]);
      }
      for (int i : new int[] {MIN, -1, traces[act].length, traces[act].length + 1, 23, 24, MAX}) {
        due.is("act " + act + ", trace(" + i + ")", x.trace(i), BAD);
      }
    }
  }

  private static void longestTrace() {
    due.promise(37);
    due.says("the first 24 are kept");
    int[][] tells = {{2, 10, 1, 11}, {2, 10, 20, 1, 11}, {2, 30, 10, 1, 11}, {2, 41, 30, 10, 1, 40, 11}, {50, 2, 10, 20, 1, 11},
      {61, 2, 41, 30, 10, 1, 60, 40, 11, 1}, {2, 10, 70, 1, 11}, {2, 80, 10, 81, 70, 1, 11, 11}};
    HeldTillSet x = new HeldTillSet();
    for (int kind = 0; kind <= 7; kind++) {
      x.body(kind);
      x.act(kind, 3, 1);
      due.is("how many ran, of kind " + kind, x.count(4), tells[kind].length);
      for (int i = 0; i < 24; i++) {
        due.is("trace(" + i + ") of kind " + kind, x.trace(i), i < tells[kind].length ? tells[kind][i] : BAD);
      }
    }
  }

  private static void keepOnShelves() {
    due.promise(38);
    due.says("SHELVES 0 .. 5; BAD");
    HeldTillSet x = new HeldTillSet();
    x.body(3);
    for (int shelf : new int[] {MIN, -1, 6, 7, MAX}) {
      due.is("a body on " + shelf, x.keep(shelf, 0), BAD);
      due.is("nothing on " + shelf, x.keep(shelf, -1), BAD);
    }
    for (int shelf = 0; shelf <= 5; shelf++) {
      due.is("nothing at first", x.taken(shelf, 0), -11);
      due.is("a body on " + shelf, x.keep(shelf, 0), 1);
      due.is("its KIND", x.taken(shelf, 0), 3);
    }
    for (int shelf = 0; shelf <= 5; shelf++) {
      due.is("nothing on " + shelf, x.keep(shelf, -1), 1);
      due.is("nothing", x.taken(shelf, 0), -11);
      due.is("nothing again", x.keep(shelf, -1), 1);
    }
  }

  private static void keepBodies() {
    due.promise(38);
    due.says("holds nothing (body -1), or a BODY: 1. BAD");
    for (int bodies = 0; bodies <= 50; bodies += 10) {
      HeldTillSet x = new HeldTillSet();
      for (int i = 0; i < bodies; i++) {
        x.body(i % 8);
      }
      for (int body : new int[] {MIN, -2, bodies, 50, MAX}) {
        due.is("body " + body + " of " + bodies, x.keep(0, body), BAD);
        due.is("nothing is there", x.taken(0, 0), -11);
      }
      for (int body = 0; body < bodies; body += 9) {
        due.is("body " + body + " of " + bodies, x.keep(0, body), 1);
        due.is("its KIND", x.taken(0, 0), body % 8);
      }
      x.row(1, 0, 1);
      due.is("in place of a row", x.keep(1, bodies - 1), 1);
      due.is("no row", x.element(1, 0), NONE);
      due.is("what is there", x.put(1, 0, 0), bodies == 0 ? -11 : -12);
    }
  }

  private static void rowOnShelves() {
    due.promise(39);
    due.says("A SHELF holds a ROW: 1. BAD");
    HeldTillSet x = new HeldTillSet();
    for (int shelf : new int[] {MIN, -1, 6, 7, MAX}) {
      due.is("row on " + shelf, x.row(shelf, 0, 1), BAD);
      due.is("bad is ahead of -14", x.row(shelf, 0, -1), BAD);
    }
    for (int shelf = 0; shelf <= 5; shelf++) {
      due.is("row on " + shelf, x.row(shelf, 0, 1), 1);
      due.is("put", x.put(shelf, 0, shelf + 1), 1);
    }
    for (int shelf = 0; shelf <= 5; shelf++) {
      due.is("each its own", x.element(shelf, 0), shelf + 1);
    }
    x.body(0);
    x.keep(3, 0);
    due.is("in place of a body", x.row(3, 4, 2), 1);
    due.is("no body", x.taken(3, 0), -12);
  }

  private static void rowSorts() {
    due.promise(39);
    due.says("0 bytes, 1 shorts, 2 ints, 3 longs, 4 booleans; BAD (sort)");
    HeldTillSet x = new HeldTillSet();
    for (int sort : new int[] {MIN, -1, 5, 6, MAX}) {
      due.is("sort " + sort, x.row(0, sort, 1), BAD);
      due.is("bad is ahead of -14", x.row(0, sort, -1), BAD);
      due.is("nothing is there", x.put(0, 0, 1), -11);
    }
    long[] want = {0, 256, 65536 + 256, (1L << 40) + 65536 + 256, 1};
    for (int sort = 0; sort <= 4; sort++) {
      due.is("sort " + sort, x.row(0, sort, 1), 1);
      x.put(0, 0, (1L << 40) + 65536 + 256);
      due.is("what it keeps", x.element(0, 0), want[sort]);
    }
  }

  private static void rowSizes() {
    due.promise(39);
    due.says("of 0 .. 60 elements; BAD (n above 60); -14");
    HeldTillSet x = new HeldTillSet();
    for (int sort = 0; sort <= 4; sort++) {
      for (int n : new int[] {61, 62, 1000, MAX}) {
        due.is("n " + n, x.row(0, sort, n), BAD);
      }
      for (int n : new int[] {-1, -2, -61, MIN}) {
        due.is("n " + n, x.row(0, sort, n), -14);
      }
    }
    due.is("nothing is there", x.put(0, 0, 1), -11);
    for (int n = 0; n <= 60; n++) {
      int sort = n % 5;
      due.is("n " + n, x.row(0, sort, n), 1);
      due.is("the last place", x.put(0, n - 1, 1), n > 0 ? 1 : -13);
      due.is("the first that is not there", x.put(0, n, 1), -13);
      due.is("of the last place", x.element(0, n - 1), n > 0 ? 1 : NONE);
      due.is("of the first that is not there", x.element(0, n), NONE);
    }
  }

  private static void rowIsNew() {
    due.promise(39);
    due.says("0 at first (false)");
    HeldTillSet x = new HeldTillSet();
    for (int sort = 0; sort <= 4; sort++) {
      x.row(0, sort, 60);
      for (int i = 0; i < 60; i += 7) {
        due.is("element " + i, x.element(0, i), 0);
        x.put(0, i, 1);
      }
      x.row(0, sort, 57);
      for (int i = 0; i < 57; i += 7) {
        due.is("element " + i + " anew", x.element(0, i), 0);
        x.put(0, i, 1);
      }
    }
    x.keep(0, -1);
    x.row(0, 4, 57);
    due.is("after nothing", x.element(0, 56), 0);
    x.put(0, 0, 1);
    due.is("refused", x.row(0, 0, -1), -14);
    due.is("refused", x.row(0, 5, 1), BAD);
    due.is("refused", x.row(0, 0, 61), BAD);
    due.is("as it was", x.element(0, 0), 1);
    due.is("as long as it was", x.put(0, 57, 1), -13);
  }

  /** The answers of put() and element() are like, but for element()'s one refusal. */
  private static void refusedAt(HeldTillSet x, String name, int shelf, int i, int want) {
    due.promise(40);
    due.is(name, x.put(shelf, i, 7), want);
    due.promise(41);
    due.is(name, x.element(shelf, i), NONE);
  }

  private static void putOnShelves() {
    due.promise(40);
    due.says("BAD, -11, -12, -13, of several the one named first");
    HeldTillSet x = new HeldTillSet();
    x.body(0);
    for (int shelf : new int[] {MIN, -1, 6, 7, MAX}) {
      for (int i : new int[] {MIN, -1, 0, 60, MAX}) {
        refusedAt(x, "shelf " + shelf + ", place " + i, shelf, i, BAD);
      }
    }
    for (int shelf = 0; shelf <= 5; shelf++) {
      for (int i : new int[] {MIN, -1, 0, 60, MAX}) {
        refusedAt(x, "nothing on " + shelf + ", place " + i, shelf, i, -11);
      }
      x.keep(shelf, 0);
      for (int i : new int[] {MIN, -1, 0, 60, MAX}) {
        refusedAt(x, "a body on " + shelf + ", place " + i, shelf, i, -12);
      }
    }
  }

  private static void putPlaces() {
    for (int n = 0; n <= 60; n += 20) {
      for (int sort = 0; sort <= 4; sort++) {
        HeldTillSet x = new HeldTillSet();
        x.row(2, sort, n);
        for (int i : new int[] {MIN, MIN + 1, -1, n, n + 1, 60, 61, MAX}) {
          refusedAt(x, "of " + n + " of sort " + sort + ", place " + i, 2, i, -13);
        }
        due.promise(40);
        due.says("Element i of a ROW becomes v: 1");
        for (int i = 0; i < n; i++) {
          due.is("put", x.put(2, i, 1), 1);
          due.is("element", x.element(2, i), 1);
          due.is("the one behind it", x.element(2, i + 1), i + 1 < n ? 0 : NONE);
        }
      }
    }
  }

  private static void putLowestBits() {
    due.promise(40);
    due.says("what is put in keeps its lowest bits (a boolean: whether it is not 0; 1 or 0)");
    long[] values = {0, 1, -1, 2, 127, 128, -128, -129, 255, 256, 257, 32767, 32768, -32768, -32769, 65535, 65536, MAX, MAX + 1L,
      MIN, MIN - 1L, (1L << 32) - 1, 1L << 32, 1L << 62, Long.MAX_VALUE, Long.MIN_VALUE, Long.MIN_VALUE + 1};
    for (int sort = 0; sort <= 4; sort++) {
      HeldTillSet x = new HeldTillSet();
      x.row(0, sort, values.length);
      for (int i = 0; i < values.length; i++) {
        long v = values[i];
        due.is("put " + v, x.put(0, i, v), 1);
        int bits = new int[] {8, 16, 32, 64, 0}[sort];
        long kept = sort == 4 ? (v == 0 ? 0 : 1) : v << 64 - bits >> 64 - bits;
        due.is(v + " as sort " + sort, x.element(0, i), kept);
      }
      due.is("put over it", x.put(0, 1, 0), 1);
      due.is("element", x.element(0, 1), 0);
    }
  }

  private static void elementOnShelves() {
    due.promise(41);
    due.says("Element i of a ROW; Long.MIN_VALUE: BAD, -11 to -13");
    HeldTillSet x = new HeldTillSet();
    for (int shelf = -1; shelf <= 6; shelf++) {
      due.is("shelf " + shelf, x.element(shelf, 0), NONE);
    }
    for (int shelf = 0; shelf <= 5; shelf++) {
      x.row(shelf, 3, 1);
      due.is("0 at first", x.element(shelf, 0), 0);
      x.put(shelf, 0, Long.MAX_VALUE);
      due.is("the greatest", x.element(shelf, 0), Long.MAX_VALUE);
      x.put(shelf, 0, Long.MIN_VALUE + 1);
      due.is("nearly the least", x.element(shelf, 0), Long.MIN_VALUE + 1);
    }
  }

  private static void elementPlaces() {
    due.promise(41);
    due.says("-13");
    HeldTillSet x = new HeldTillSet();
    Due.bytes(x, 0, 5, 6, 7);
    long[] want = {NONE, NONE, 5, 6, 7, NONE, NONE};
    for (int i = -2; i <= 4; i++) {
      due.is("element(0, " + i + ")", x.element(0, i), want[i + 2]);
    }
    x.row(0, 0, 2);
    due.is("a shorter row", x.element(0, 2), NONE);
    x.row(0, 0, 3);
    due.is("a longer row", x.element(0, 2), 0);
  }

  private static void shiftOnShelves() {
    due.promise(42);
    due.says("BAD, -11 (either), -12 (no ROWS, or of unlike sorts), -13 (n below 0, too)");
    HeldTillSet x = new HeldTillSet();
    x.body(0);
    x.row(0, 0, 3);
    x.row(1, 1, 3);
    x.keep(2, 0);
    for (int shelf : new int[] {MIN, -1, 6, MAX}) {
      for (int other = 0; other <= 3; other++) {
        due.is("from " + shelf + " to " + other, x.shift(shelf, 0, other, 0, 1), BAD);
        due.is("from " + other + " to " + shelf, x.shift(other, 0, shelf, 0, 1), BAD);
      }
    }
    int[][] want = {{1, -12, -12, -11}, {-12, 1, -12, -11}, {-12, -12, -12, -11}, {-11, -11, -11, -11}};
    for (int from = 0; from <= 3; from++) {
      for (int to = 0; to <= 3; to++) {
        due.is("from " + from + " to " + to, x.shift(from, 0, to, 0, 1), want[from][to]);
        for (int n : new int[] {-1, 4, MIN, MAX}) {
          int first = want[from][to] == 1 ? -13 : want[from][to];
          due.is("from " + from + " to " + to + ", n " + n, x.shift(from, 0, to, 0, n), first);
        }
      }
    }
    for (int shelf = 0; shelf <= 5; shelf++) {
      HeldTillSet y = new HeldTillSet();
      Due.bytes(y, shelf, 1, 2);
      due.is("in one shelf " + shelf, y.shift(shelf, 0, shelf, 1, 1), 1);
      due.is("element", y.element(shelf, 1), 1);
    }
  }

  private static void shiftSorts() {
    due.promise(42);
    due.says("-12 (no ROWS, or of unlike sorts)");
    for (int from = 0; from <= 4; from++) {
      for (int to = 0; to <= 4; to++) {
        HeldTillSet x = new HeldTillSet();
        Due.row(x, 0, from, 1, 0, 1);
        Due.row(x, 1, to, 0, 1, 0);
        due.is("from sort " + from + " to sort " + to, x.shift(0, 0, 1, 0, 3), from == to ? 3 : -12);
        for (int i = 0; i < 3; i++) {
          due.is("element " + i, x.element(1, i), from == to ? 1 - i % 2 : i % 2);
          due.is("where it came from", x.element(0, i), 1 - i % 2);
        }
        due.is("none at all", x.shift(0, 0, 1, 0, 0), from == to ? 0 : -12);
      }
    }
  }

  private static void shiftPlaces() {
    due.promise(42);
    due.says("-13: a place that is not there (n below 0, too); n");
    for (int length : new int[] {0, 1, 3, 60}) {
      HeldTillSet x = new HeldTillSet();
      x.row(0, 0, length);
      x.row(1, 0, 60);
      int[] places = {MIN, -1, 0, 1, length - 1, length, length + 1, MAX};
      int[] sizes = {MIN, -1, 0, 1, length - 1, length, length + 1, MAX};
      for (int i : places) {
        for (int n : sizes) {
          boolean there = i >= 0 && n >= 0 && (long) i + n <= length;
          due.is("from " + i + ", " + n + " of " + length, x.shift(0, i, 1, 0, n), there ? n : -13);
          due.is("to " + i + ", " + n + " of " + length, x.shift(1, 0, 0, i, n), there ? n : -13);
        }
      }
    }
  }

  private static void shiftAsTheyWere() {
    due.promise(42);
    due.says("come to another one (or the same), as they all were before");
    for (int i = 0; i <= 5; i++) {
      for (int j = 0; j <= 5; j++) {
        for (int n = 0; n <= 5 - Math.max(i, j); n++) {
          HeldTillSet x = new HeldTillSet();
          Due.row(x, 4, 3, 11, 12, 13, 14, 15);
          due.is("shift", x.shift(4, i, 4, j, n), n);
          for (int p = 0; p < 5; p++) {
            due.is("from " + i + " to " + j + ", " + n + " of them: " + p, x.element(4, p), p >= j && p < j + n ? 11 + p - j + i : 11 + p);
          }
        }
      }
    }
    HeldTillSet x = new HeldTillSet();
    x.row(0, 2, 60);
    x.row(5, 2, 60);
    x.put(0, 0, MIN);
    x.put(0, 59, MAX);
    due.is("all sixty", x.shift(0, 0, 5, 0, 60), 60);
    due.is("the first", x.element(5, 0), MIN);
    due.is("the last", x.element(5, 59), MAX);
    due.is("as it was", x.element(0, 59), MAX);
  }

  private static void takenOnShelves() {
    due.promise(43);
    due.says("BAD, -11, -12");
    HeldTillSet x = new HeldTillSet();
    x.body(0);
    for (int shelf : new int[] {MIN, -1, 6, 7, MAX}) {
      due.is("shelf " + shelf, x.taken(shelf, 0), BAD);
    }
    for (int shelf = 0; shelf <= 5; shelf++) {
      for (int k : new int[] {MIN, -1, 8, 9, MAX}) {
        due.is("nothing, KIND " + k, x.taken(shelf, k), BAD);
      }
      for (int k = 0; k <= 7; k++) {
        due.is("nothing, KIND " + k, x.taken(shelf, k), -11);
      }
      for (int sort = 0; sort <= 4; sort++) {
        x.row(shelf, sort, 1);
        for (int k = -1; k <= 8; k++) {
          due.is("a row, KIND " + k, x.taken(shelf, k), k < 0 || k > 7 ? BAD : -12);
        }
      }
      x.keep(shelf, 0);
      for (int k = -1; k <= 8; k++) {
        due.is("a JOINT, KIND " + k, x.taken(shelf, k), k < 0 || k > 7 ? BAD : k == 0 ? 0 : -12);
      }
    }
  }

  private static void takenKinds() {
    due.promise(43);
    due.says("RUNG under JOINT; LEG under JOINT; SEAT under LEG; CLAMP under RUNG; BROTHER under SEAT; DRIP under JOINT; "
        + "THUMB under DRIP");
    String[] takenFor = {"0", "01", "02", "023", "014", "0235", "06", "067"};
    for (int kind = 0; kind <= 7; kind++) {
      HeldTillSet x = new HeldTillSet();
      x.body(kind);
      x.keep(5, 0);
      for (int k = 0; k <= 7; k++) {
        due.is("KIND " + kind + " for " + k, x.taken(5, k), takenFor[kind].indexOf('0' + k) >= 0 ? kind : -12);
      }
    }
  }

  private static void countWhat() {
    due.promise(44);
    due.says("How many: 0 .. 4. BAD");
    HeldTillSet x = new HeldTillSet();
    for (int what : new int[] {MIN, -1, 5, 6, MAX}) {
      due.is("count(" + what + ")", x.count(what), BAD);
    }
    for (int what = 0; what <= 4; what++) {
      due.is("count(" + what + ") at first", x.count(what), 0);
    }
  }

  private static void countEnds() {
    due.promise(44);
    due.says("0 JOINTS, 1 bytes on THE TAPE, 2 changes that may be UNDONE, 3 BODIES, 4 bodies that ran in the latest act()");
    HeldTillSet x = new HeldTillSet();
    for (int i = 1; i <= 121; i++) {
      x.joint(1, 1);
      x.feed('1');
      x.mend(0, 8, i % 10);
      x.body(5);
    }
    x.act(49, 3, 1);
    int[] want = {7, 120, 40, 50, 10};
    for (int what = 0; what <= 4; what++) {
      due.is("count(" + what + ") at most", x.count(what), want[what]);
    }
    x.undo();
    due.is("one change less", x.count(2), 39);
    x.redo();
    due.is("one more", x.count(2), 40);
    x.law();
    due.is("the tape is empty", x.count(1), 0);
    x.act(50, 3, 1);
    due.is("none ran", x.count(4), 0);
  }
}
