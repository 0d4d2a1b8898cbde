/** Promises 38 to 44: shelves, rows, bodies taken, counts. */
public final class ShelvesTest {
  private static final int BAD = -1;
  private static final Due due = new Due("ShelvesTest");

  public static void main(String[] args) {
    keep();
    row();
    put();
    element();
    shift();
    shiftRefuses();
    taken();
    count();
    due.end();
  }

  private static void keep() {
    due.promise(38);
    HeldTillSet x = new HeldTillSet();
    due.is("no such body", x.keep(0, 0), BAD);
    x.body(6);
    x.body(1);
    due.is("shelf -1", x.keep(-1, 0), BAD);
    due.is("shelf 6", x.keep(6, 0), BAD);
    due.is("body -2", x.keep(0, -2), BAD);
    due.is("body 2", x.keep(0, 2), BAD);
    due.is("nothing on nothing", x.keep(0, -1), 1);
    due.is("a body", x.keep(0, 1), 1);
    due.is("taken", x.taken(0, 0), 1);
    due.is("another", x.keep(0, 0), 1);
    due.is("taken", x.taken(0, 0), 6);
    due.is("bad changes nothing", x.keep(0, 7), BAD);
    due.is("taken", x.taken(0, 0), 6);
    due.is("nothing", x.keep(0, -1), 1);
    due.is("taken", x.taken(0, 0), -11);
    x.row(5, 0, 2);
    due.is("in place of a row", x.keep(5, 0), 1);
    due.is("no row any more", x.put(5, 0, 1), -12);
    due.is("one body on two shelves", x.keep(4, 0), 1);
    due.is("taken", x.taken(5, 6), 6);
  }

  private static void row() {
    due.promise(39);
    HeldTillSet x = new HeldTillSet();
    due.is("shelf -1", x.row(-1, 0, 1), BAD);
    due.is("shelf 6", x.row(6, 0, 1), BAD);
    due.is("sort -1", x.row(0, -1, 1), BAD);
    due.is("sort 5", x.row(0, 5, 1), BAD);
    due.is("n 61", x.row(0, 0, 61), BAD);
    due.is("n -1", x.row(0, 0, -1), -14);
    due.is("the least n", x.row(0, 0, Integer.MIN_VALUE), -14);
    due.is("bad ahead of -14", x.row(0, 5, -1), BAD);
    due.is("bad ahead of -14", x.row(6, 0, -1), BAD);
    due.is("nothing is there", x.put(0, 0, 1), -11);
    for (int sort = 0; sort <= 4; sort++) {
      due.is("n 0", x.row(0, sort, 0), 1);
      due.is("no place", x.put(0, 0, 1), -13);
      due.is("n 60", x.row(0, sort, 60), 1);
      due.is("the last place", x.put(0, 59, 1), 1);
      due.is("no place", x.put(0, 60, 1), -13);
      due.is("put", x.element(0, 59), 1);
    }
    due.is("anew", x.row(0, 0, 60), 1);
    due.is("all 0 again", x.element(0, 59), 0);
    x.put(0, 3, 9);
    due.is("a refused one", x.row(0, 0, -1), -14);
    due.is("changes nothing", x.element(0, 3), 9);
    x.row(0, 0, 3);
    x.row(0, 0, 5);
    due.is("all 0 again", x.element(0, 3), 0);
  }

  private static void put() {
    due.promise(40);
    HeldTillSet x = new HeldTillSet();
    long[] values = {0, 1, -1, 127, 128, 255, 256, 300, 32767, 32768, -32769, 65536, 1L << 31, (1L << 32) + 5, 1L << 40,
      Long.MAX_VALUE, Long.MIN_VALUE};
    for (int sort = 0; sort <= 4; sort++) {
      x.row(sort, sort, 20);
    }
    for (int i = 0; i < values.length; i++) {
      long v = values[i];
      long[] want = {(byte) v, (short) v, (int) v, v, v != 0 ? 1 : 0};
      for (int sort = 0; sort <= 4; sort++) {
        due.is("put", x.put(sort, i, v), 1);
        due.is(v + " as sort " + sort, x.element(sort, i), want[sort]);
      }
    }
    due.is("i -1", x.put(0, -1, 1), -13);
    due.is("i 20", x.put(0, 20, 1), -13);
    due.is("the least i", x.put(0, Integer.MIN_VALUE, 1), -13);
    due.is("nothing", x.put(5, 0, 1), -11);
    due.is("shelf 6", x.put(6, 0, 1), BAD);
    due.is("shelf -1", x.put(-1, 0, 1), BAD);
    x.body(0);
    x.keep(5, 0);
    due.is("a body", x.put(5, -1, 1), -12);
  }

  private static void element() {
    due.promise(41);
    HeldTillSet x = new HeldTillSet();
    long none = Long.MIN_VALUE;
    due.is("nothing", x.element(0, 0), none);
    due.is("shelf 6", x.element(6, 0), none);
    due.is("shelf -1", x.element(-1, 0), none);
    x.body(0);
    x.keep(0, 0);
    due.is("a body", x.element(0, 0), none);
    x.row(0, 3, 2);
    due.is("0 at first", x.element(0, 1), 0);
    due.is("i 2", x.element(0, 2), none);
    due.is("i -1", x.element(0, -1), none);
    x.put(0, 1, 77);
    due.is("put", x.element(0, 1), 77);
  }

  private static void shift() {
    due.promise(42);
    HeldTillSet x = new HeldTillSet();
    Due.bytes(x, 0, 1, 2, 3, 4, 5);
    Due.bytes(x, 1, 11, 12, 13);
    due.is("to another", x.shift(0, 1, 1, 0, 2), 2);
    is(x, 1, 2, 3, 13);
    is(x, 0, 1, 2, 3, 4, 5);
    due.is("upward in the same", x.shift(0, 0, 0, 1, 4), 4);
    is(x, 0, 1, 1, 2, 3, 4);
    due.is("downward in the same", x.shift(0, 1, 0, 0, 4), 4);
    is(x, 0, 1, 2, 3, 4, 4);
    due.is("none at the ends", x.shift(0, 5, 1, 3, 0), 0);
    due.is("all", x.shift(1, 0, 0, 2, 3), 3);
    is(x, 0, 1, 2, 2, 3, 13);
    for (int sort = 1; sort <= 4; sort++) {
      Due.row(x, 2, sort, 0, 1);
      Due.row(x, 3, sort, 0, 0);
      due.is("sort " + sort, x.shift(2, 0, 3, 0, 2), 2);
      is(x, 3, 0, 1);
    }
  }

  private static void is(HeldTillSet x, int shelf, long... want) {
    for (int i = 0; i < want.length; i++) {
      due.is("element(" + shelf + ", " + i + ")", x.element(shelf, i), want[i]);
    }
  }

  private static void shiftRefuses() {
    due.promise(42);
    HeldTillSet x = new HeldTillSet();
    x.body(0);
    x.row(0, 0, 5);
    x.row(1, 0, 3);
    x.row(2, 1, 3);
    x.keep(3, 0);
    int max = Integer.MAX_VALUE;
    int min = Integer.MIN_VALUE;
    int[][] calls = {{-1, 0, 0, 0, 1}, {0, 0, 6, 0, 1}, {6, 0, 4, 0, 1}, {4, 0, 0, 0, 1}, {0, 0, 4, 0, 1}, {3, 0, 4, 0, 1},
      {4, 0, 3, 0, -1}, {3, 0, 0, 0, 1}, {0, 0, 3, 0, 1}, {3, 0, 3, 0, 1}, {0, 0, 2, 0, 1}, {2, 0, 0, 0, -1},
      {0, 0, 1, 0, -1}, {0, -1, 1, 0, 1}, {0, 0, 1, -1, 1}, {0, 5, 1, 0, 1}, {0, 0, 1, 3, 1}, {0, 0, 1, 0, 4}, {0, 3, 1, 0, 3},
      {0, 6, 1, 0, 0}, {0, 0, 1, 4, 0}, {0, max, 1, 0, max}, {0, max, 1, 0, 1}, {0, 1, 1, max, max}, {0, min, 1, 0, min},
      {0, 0, 1, min, 1}, {0, 0, 0, 0, 6}};
    int[] want = {BAD, BAD, BAD, -11, -11, -11,
      -11, -12, -12, -12, -12, -12,
      -13, -13, -13, -13, -13, -13, -13,
      -13, -13, -13, -13, -13, -13,
      -13, -13};
    for (int i = 0; i < calls.length; i++) {
      int[] c = calls[i];
      due.is("shift, call " + i, x.shift(c[0], c[1], c[2], c[3], c[4]), want[i]);
    }
  }

  private static void taken() {
    due.promise(43);
    int[] above = {-1, 0, 0, 2, 1, 3, 0, 6};
    HeldTillSet x = new HeldTillSet();
    for (int kind = 0; kind < 8; kind++) {
      x.body(kind);
    }
    for (int kind = 0; kind < 8; kind++) {
      x.keep(2, kind);
      for (int k = 0; k < 8; k++) {
        boolean under = false;
        for (int up = kind; up >= 0; up = above[up]) {
          under |= up == k;
        }
        due.is("kind " + kind + " taken for " + k, x.taken(2, k), under ? kind : -12);
      }
    }
    due.is("k 8", x.taken(2, 8), BAD);
    due.is("k -1", x.taken(2, -1), BAD);
    due.is("shelf 6", x.taken(6, 0), BAD);
    due.is("shelf -1", x.taken(-1, 0), BAD);
    due.is("nothing", x.taken(0, 0), -11);
    due.is("bad ahead of -11", x.taken(0, 8), BAD);
    x.row(0, 0, 4);
    due.is("a row", x.taken(0, 0), -12);
  }

  private static void count() {
    due.promise(44);
    HeldTillSet x = new HeldTillSet();
    x.joint(1, 1);
    x.joint(1, 1);
    x.feed('1');
    x.feed('2');
    x.feed('3');
    x.mend(0, 6, 1);
    x.body(0);
    x.body(0);
    x.body(0);
    x.body(4);
    x.act(3, 3, 1);
    int[] want = {2, 3, 1, 4, 6};
    for (int what = 0; what <= 4; what++) {
      due.is("count(" + what + ")", x.count(what), want[what]);
    }
    due.is("count(5)", x.count(5), BAD);
    due.is("count(-1)", x.count(-1), BAD);
  }
}
