/** Each edge that the document names for promises 21 to 25: drips read back, draws. */
public final class EdgesDripsTest {
  private static final int BAD = -1, NOT = -2;
  private static final int MIN = Integer.MIN_VALUE, MAX = Integer.MAX_VALUE;
  private static final Due due = new Due("EdgesDripsTest");

  public static void main(String[] args) {
    for (int promise = 21; promise <= 23; promise += 2) {
      shelvesOfBoth(promise);
      orderAndDripsBeside(promise);
      rowsOfBoth(promise);
    }
    judgedTwos();
    judgedMinutes();
    judgedLengths();
    whichShelf();
    whichRows();
    whichDigits();
    whichTwos();
    whoOfMen();
    byHand();
    clampsAtOnce();
    drawnChairs();
    drawnWhat();
    drawnSlips();
    drawnWraps();
    drawnAhead();
    drawnAsFarAsTheyDid();
    due.end();
  }

  /** Joints of 1 minute that take no hands and are not held: the k-th of an order has set in minute k + 11. */
  private static HeldTillSet loose(int n) {
    HeldTillSet x = new HeldTillSet();
    for (int j = 0; j < n; j++) {
      x.joint(1, 0);
      x.mend(j, 2, 0);
    }
    return x;
  }

  private static int ask(HeldTillSet x, int promise, int od) {
    return promise == 21 ? x.judge(od) : x.who(od);
  }

  /** What is answered if all is so. */
  private static int allSo(int promise) {
    return promise == 21 ? NOT : 0;
  }

  private static void shelvesOfBoth(int promise) {
    due.promise(promise);
    due.says("od: 10 times the SHELF of the ORDER, and that of DRIPS; BAD, -11, -12");
    for (int od = -70; od <= 130; od++) {
      boolean shelves = od >= 0 && od / 10 <= 5 && od % 10 <= 5;
      due.is("of nothing, od " + od, ask(loose(1), promise, od), shelves ? -11 : BAD);
    }
    for (int od : new int[] {MIN, MIN + 1, MAX - 1, MAX}) {
      due.is("od " + od, ask(loose(1), promise, od), BAD);
    }
  }

  private static void orderAndDripsBeside(int promise) {
    due.promise(promise);
    due.says("od: 10 times the SHELF of the ORDER, and that of DRIPS");
    for (int order = 0; order <= 5; order++) {
      for (int drips = 0; drips <= 5; drips++) {
        HeldTillSet x = loose(2);
        Due.bytes(x, order, 1, 0);
        if (drips != order) {
          Due.shorts(x, drips, 0, 12, 1, 11);
        }
        due.is("od " + (10 * order + drips), ask(x, promise, 10 * order + drips), drips == order ? -12 : allSo(promise));
        if (drips != order) {
          due.is("the other way about", ask(x, promise, 10 * drips + order), -12);
        }
      }
    }
  }

  private static void rowsOfBoth(int promise) {
    due.promise(promise);
    due.says("-11 (nothing), -12 (no ROW of bytes, of shorts); of several the one named first");
    HeldTillSet x = loose(1);
    x.body(0);
    Due.bytes(x, 0, 0);
    Due.shorts(x, 1, 0, 11);
    due.is("as it may be", ask(x, promise, 1), allSo(promise));
    due.is("no drips", ask(x, promise, 2), -11);
    due.is("no order", ask(x, promise, 21), -11);
    due.is("neither", ask(x, promise, 22), -11);
    due.is("shorts for the order, no drips", ask(x, promise, 12), -11);
    due.is("no order, bytes for drips", ask(x, promise, 20), -11);
    for (int sort = 0; sort <= 4; sort++) {
      x.row(3, sort, 0);
      due.is("drips of sort " + sort, ask(x, promise, 3), sort == 1 ? allSo(promise) : -12);
      due.is("an order of sort " + sort + ", drips that are so", ask(x, promise, 31), sort == 0 ? (promise == 21 ? 0 : NOT) : -12);
      due.is("no order, sort " + sort, ask(x, promise, 23), -11);
      due.is("no drips, sort " + sort, ask(x, promise, 32), -11);
    }
    x.keep(3, 0);
    due.is("a body for drips", ask(x, promise, 3), -12);
    due.is("a body for the order", ask(x, promise, 31), -12);
    due.is("a body for the order, no drips", ask(x, promise, 32), -11);
  }

  private static void judgedTwos() {
    due.promise(21);
    due.says("the first two that is not so (also what is none, or lacks); NOT");
    for (int not = 0; not <= 6; not++) {
      HeldTillSet x = loose(7);
      Due.bytes(x, 0, 0, 1, 2, 3, 4, 5, 6);
      x.row(1, 1, 14);
      for (int j = 0; j < 7; j++) {
        x.put(1, 2 * j, j);
        x.put(1, 2 * j + 1, j == not ? 9 : j + 11);
      }
      due.is("the two " + not, x.judge(1), not);
      x.put(1, 2 * not + 1, not + 11);
      due.is("all are so", x.judge(1), NOT);
      x.put(1, 2 * not, 7);
      due.is("a joint 7", x.judge(1), not);
      x.put(1, 2 * not, -1);
      due.is("a joint -1", x.judge(1), not);
      Due.bytes(x, 0, 0, 1, 2, 3, 4, 5, 6);
      x.row(0, 0, not);
      for (int i = 0; i < not; i++) {
        x.put(0, i, i);
      }
      x.put(1, 2 * not, not);
      due.is("not in the order any more", x.judge(1), not);
    }
    HeldTillSet x = loose(2);
    Due.bytes(x, 0, 0, 1);
    x.mend(1, 4, 64);
    Due.shorts(x, 1, 0, 11, 1, 12);
    due.is("one that does not go in", x.judge(1), 1);
    Due.shorts(x, 1, 2, 13);
    due.is("the first joint that is not there", x.judge(1), 0);
  }

  private static void judgedMinutes() {
    due.promise(21);
    due.says("the minute in which it had SET");
    for (int minute : new int[] {-32768, -2, -1, 0, 1, 10, 11, 12, 32767}) {
      HeldTillSet x = loose(1);
      Due.bytes(x, 0, 0);
      Due.shorts(x, 1, 0, minute);
      due.is("minute " + minute, x.judge(1), minute == 11 ? NOT : 0);
      Due.bytes(x, 0);
      due.is("minute " + minute + ", an empty order", x.judge(1), 0);
    }
    HeldTillSet x = loose(1);
    Due.bytes(x, 0, 0);
    Due.shorts(x, 1, 65536, 65536 + 11);
    due.is("what is put in keeps its lowest bits", x.judge(1), NOT);
  }

  private static void judgedLengths() {
    due.promise(21);
    due.says("by twos; also what lacks");
    for (int length = 0; length <= 60; length++) {
      HeldTillSet x = loose(1);
      Due.bytes(x, 0, 0);
      x.row(1, 1, length);
      for (int i = 1; i < length; i += 2) {
        x.put(1, i, 11);
      }
      due.is("a row of " + length, x.judge(1), length % 2 == 0 ? NOT : length / 2);
    }
    HeldTillSet x = loose(1);
    Due.bytes(x, 0, 0);
    x.row(1, 1, 60);
    for (int i = 1; i < 59; i += 2) {
      x.put(1, i, 11);
    }
    due.is("the thirtieth alone is not so", x.judge(1), 29);
  }

  private static void whichShelf() {
    due.promise(22);
    due.says("shelf: DRIPS; BAD, -11, -12");
    for (int what = 0; what <= 1; what++) {
      for (int shelf : new int[] {MIN, -1, 6, 7, MAX}) {
        due.is("shelf " + shelf, loose(1).which(shelf, what), BAD);
      }
    }
    for (int shelf = 0; shelf <= 5; shelf++) {
      HeldTillSet x = loose(2);
      for (int what : new int[] {MIN, -1, 2, MAX}) {
        due.is("what " + what + " of nothing", x.which(shelf, what), BAD);
      }
      due.is("nothing", x.which(shelf, 0), -11);
      for (int sort = 0; sort <= 4; sort++) {
        x.row(shelf, sort, 0);
        due.is("a row of sort " + sort, x.which(shelf, 0), sort == 1 ? 2 : -12);
        due.is("what 2 of sort " + sort, x.which(shelf, 2), BAD);
      }
      x.body(0);
      x.keep(shelf, 0);
      due.is("a body", x.which(shelf, 1), -12);
    }
  }

  private static void whichRows() {
    due.promise(22);
    due.says("WHICH: how many ORDERS of all that go in are so; the first; NOT");
    int[] orders = {1, 1, 2, 6, 24, 120, 720, 5040};
    int[] first = {0, 0, 1, 12, 123, 1234, 12345, 123456};
    for (int size = 0; size <= 7; size++) {
      HeldTillSet x = loose(size);
      x.row(1, 1, 0);
      due.is("no drips, of " + size, x.which(1, 0), orders[size]);
      due.is("the first", x.which(1, 1), first[size]);
      x.row(1, 1, 1);
      due.is("one that lacks", x.which(1, 0), 0);
      due.is("one that lacks", x.which(1, 1), NOT);
      Due.shorts(x, 1, size, 11);
      due.is("one that is none", x.which(1, 0), 0);
      due.is("one that is none", x.which(1, 1), NOT);
    }
    for (int length = 0; length <= 60; length++) {
      HeldTillSet x = loose(2);
      x.row(1, 1, length);
      for (int i = 1; i < length; i += 2) {
        x.put(1, i, 11);
      }
      due.is("a row of " + length, x.which(1, 0), length == 0 ? 2 : length % 2 == 0 ? 1 : 0);
    }
  }

  private static void whichDigits() {
    due.promise(22);
    due.says("the first (its JOINTS as digits; NOT)");
    HeldTillSet x = loose(7);
    Due.shorts(x, 1, 6, 11, 5, 12, 4, 13, 3, 14, 2, 15, 1, 16, 0, 17);
    due.is("one alone", x.which(1, 0), 1);
    due.is("the greatest", x.which(1, 1), 6543210);
    Due.shorts(x, 1, 6, 11);
    due.is("that begin with 6", x.which(1, 0), 720);
    due.is("the first", x.which(1, 1), 6012345);
    Due.shorts(x, 1, 0, 17);
    due.is("that end with 0", x.which(1, 0), 720);
    due.is("the first", x.which(1, 1), 1234560);
    Due.shorts(x, 1, 0, 18);
    due.is("an eighth place", x.which(1, 0), 0);
    due.is("an eighth place", x.which(1, 1), NOT);
    Due.shorts(x, 1, 6, 11, 5, 11);
    due.is("two in one place", x.which(1, 1), NOT);
  }

  private static void whichTwos() {
    due.promise(22);
    due.says("by twos a JOINT, the minute in which it had SET");
    for (int minute : new int[] {-32768, -2, -1, 0, 10, 11, 12, 13, 32767}) {
      HeldTillSet x = loose(2);
      Due.shorts(x, 1, 1, minute);
      due.is("minute " + minute, x.which(1, 0), minute == 11 || minute == 12 ? 1 : 0);
      due.is("the first", x.which(1, 1), minute == 11 ? 10 : minute == 12 ? 1 : NOT);
    }
    HeldTillSet x = loose(2);
    x.mend(1, 4, 1);
    Due.shorts(x, 1, 1, 11);
    due.is("it does not go in first", x.which(1, 0), 0);
    Due.shorts(x, 1, 1, 12);
    due.is("it goes in second", x.which(1, 0), 1);
    x.mend(0, 1, 3);
    Due.shorts(x, 1);
    due.is("no order of all goes in", x.which(1, 0), 0);
    due.is("no order of all goes in", x.which(1, 1), NOT);
  }

  private static void whoOfMen() {
    due.promise(23);
    due.says("with how many MEN (0 .. 3; the least) an ORDER is so; NOT");
    for (int joints = 1; joints <= 5; joints++) {
      HeldTillSet x = new HeldTillSet();
      for (int j = 0; j < joints; j++) {
        x.joint(1, 0);
        x.mend(j, 2, 2);
        x.mend(j, 3, 0);
      }
      x.row(0, 0, joints);
      for (int j = 0; j < joints; j++) {
        x.put(0, j, j);
      }
      Due.shorts(x, 1, joints - 1, joints + 10);
      for (int men = 0; men <= 3; men++) {
        x.mend(0, 6, men);
        due.is("the last of " + joints + " is held", x.who(1), joints <= 4 ? joints - 1 : NOT);
        due.is("MEN stay", x.of(0, 6), men);
      }
      Due.shorts(x, 1, joints - 1, joints + 11);
      due.is("another minute", x.who(1), NOT);
    }
    HeldTillSet x = loose(0);
    x.row(0, 0, 0);
    x.row(1, 1, 0);
    due.is("nothing is so with none", x.who(1), 0);
    x.row(1, 1, 1);
    due.is("what lacks is never so", x.who(1), NOT);
    // The more men, the earlier: with one the second has set in minute 12, with none in 22.
    HeldTillSet y = new HeldTillSet();
    y.joint(1, 2);
    y.joint(1, 2);
    Due.bytes(y, 0, 0, 1);
    Due.shorts(y, 1, 1, 22);
    y.mend(0, 6, 3);
    due.is("none, though there are three", y.who(1), 0);
    Due.shorts(y, 1, 1, 12);
    due.is("one", y.who(1), 1);
  }

  private static void byHand() {
    due.promise(24);
    due.says("BY HAND: bits (what 0); BAD");
    for (int n = 0; n <= 7; n++) {
      HeldTillSet x = new HeldTillSet();
      x.mend(0, 6, 3);
      x.row(0, 0, n);
      for (int j = 0; j < 7; j++) {
        x.joint(1, 0);
        x.put(0, j, j);
      }
      due.is("hands hold " + n, x.byHand(0, 0), (1 << n) - 1);
      due.is("no clamps", x.byHand(0, 1), 0);
      x.mend(0, 2, 0);
      due.is("the first is not held", x.byHand(0, 0), ((1 << n) - 1) & ~1);
      for (int what : new int[] {MIN, -1, 2, MAX}) {
        due.is("what " + what, x.byHand(0, what), BAD);
      }
    }
    HeldTillSet x = Due.three();
    x.mend(2, 4, 64);
    due.is("of those that go in", x.byHand(0, 0), 3);
    x.mend(0, 4, 64);
    due.is("of none", x.byHand(0, 0), 0);
  }

  private static void clampsAtOnce() {
    due.promise(24);
    due.says("how many clamps at once at most");
    for (int set = 0; set <= 8; set++) {
      HeldTillSet x = new HeldTillSet();
      x.row(0, 0, 7);
      for (int j = 0; j < 7; j++) {
        x.joint(1, 0);
        x.put(0, j, j);
      }
      x.mend(0, 7, 6);
      Due.law(x, String.valueOf(set));
      due.is("each holds for " + set, x.byHand(0, 1), Math.min(set, 6));
      due.is("the seventh by hand", x.byHand(0, 0), set >= 7 ? 64 : 0);
    }
    // The most are in use in the middle: five of them, then one.
    HeldTillSet x = new HeldTillSet();
    x.row(0, 0, 6);
    for (int j = 0; j < 6; j++) {
      x.joint(j == 5 ? 9 : 1, 0);
      x.put(0, j, j);
    }
    x.mend(0, 7, 6);
    Due.law(x, "k<5?6-k;9");
    due.is("at most, not at last", x.byHand(0, 1), 5);
  }

  private static void drawnChairs() {
    due.promise(25);
    due.says("n chairs (1 .. 30); DONE of all together (what 0), whole ones (1)");
    for (int n : new int[] {MIN, -1, 0, 31, 32, MAX}) {
      HeldTillSet x = loose(1);
      Due.bytes(x, 0, 0);
      due.is("n " + n, x.drawn(0, 1, n, 0), BAD);
      due.is("bad is ahead of -11", x.drawn(1, 1, n, 0), BAD);
    }
    for (int n = 1; n <= 30; n++) {
      HeldTillSet x = loose(2);
      Due.bytes(x, 0, 0, 1);
      due.is("together, of " + n, x.drawn(0, 1, n, 0), 12 * n);
      due.is("whole, of " + n, x.drawn(0, 1, n, 1), n);
      x.mend(1, 4, 4);
      due.is("as far as they did", x.drawn(0, 1, n, 0), 11 * n);
      due.is("none is whole", x.drawn(0, 1, n, 1), 0);
      x.mend(0, 4, 4);
      due.is("none went in", x.drawn(0, 1, n, 0), 0);
      Due.bytes(x, 0);
      due.is("nothing", x.drawn(0, 1, n, 0), 0);
      due.is("nothing is whole", x.drawn(0, 1, n, 1), n);
    }
  }

  private static void drawnWhat() {
    due.promise(25);
    due.says("BAD, -11, -12");
    HeldTillSet x = loose(1);
    Due.bytes(x, 0, 0);
    for (int what : new int[] {MIN, -1, 2, MAX}) {
      due.is("what " + what, x.drawn(0, 1, 1, what), BAD);
      due.is("bad is ahead of -11", x.drawn(1, 1, 1, what), BAD);
    }
    for (int shelf : new int[] {MIN, -1, 6, MAX}) {
      due.is("shelf " + shelf, x.drawn(shelf, 1, 1, 0), BAD);
    }
    due.is("nothing", x.drawn(1, 1, 1, 0), -11);
    x.row(1, 1, 1);
    due.is("shorts", x.drawn(1, 1, 1, 0), -12);
  }

  private static void drawnSlips() {
    due.promise(25);
    due.says("it slips, if (z >>> 8) % 12 is below SLIPS (0 .. 12): it takes FITS once more");
    for (int seed = 0; seed < 40; seed++) {
      int drawn = ((seed * 1103515245 + 12345) >>> 8) % 12;
      HeldTillSet x = new HeldTillSet();
      x.joint(9, 0);
      Due.bytes(x, 0, 0);
      for (int slips = 0; slips <= 12; slips++) {
        x.mend(0, 10, slips);
        due.is("drawn " + drawn + ", SLIPS " + slips, x.drawn(0, seed, 1, 0), drawn < slips ? 28 : 19);
      }
    }
    HeldTillSet x = loose(3);
    Due.bytes(x, 0, 0, 1, 2);
    for (int slips = 0; slips <= 12; slips += 12) {
      x.mend(0, 10, slips);
      for (int seed : new int[] {MIN, -1, 0, 1, MAX}) {
        due.is("SLIPS " + slips + ", SEED " + seed, x.drawn(0, seed, 30, 0), 30 * (slips == 0 ? 13 : 16));
        due.is("SLIPS " + slips + ", SEED " + seed, x.drawn(0, seed, 30, 1), 30);
      }
    }
    due.says("SLIPS are of draws alone");
    due.is("an order in thought", x.done(0, 1), 13);
    due.is("in deed", x.fit(0), 1);
  }

  private static void drawnWraps() {
    due.promise(25);
    due.says("z = z * 1103515245 + 12345 (an int; SEED at first)");
    for (int seed : new int[] {MIN, MIN + 1, -12345, -1, 0, 1, 2, 255, 256, 1 << 30, MAX - 1, MAX}) {
      HeldTillSet x = loose(7);
      Due.bytes(x, 0, 6, 5, 4, 3, 2, 1, 0);
      x.mend(0, 10, 6);
      long z = seed;
      int together = 0;
      for (int n = 1; n <= 30; n++) {
        int done = 10;
        for (int k = 0; k < 7; k++) {
          // The same in longs: what is above 32 bits never comes down.
          z = (z * 1103515245L + 12345L) & 0xffffffffL;
          done += (z >> 8) % 12 < 6 ? 2 : 1;
        }
        together += done;
        due.is("SEED " + seed + ", " + n + " chairs", x.drawn(0, seed, n, 0), together);
      }
      due.is("the same again: z is not kept", x.drawn(0, seed, 30, 0), together);
    }
  }

  /** A joint that lets nothing in behind it: each chair draws once, so that the next one goes on from there. */
  private static void drawnAhead() {
    due.promise(25);
    due.says("ahead of each JOINT that is begun");
    for (int seed = 0; seed < 20; seed++) {
      HeldTillSet x = loose(3);
      Due.bytes(x, 0, 0, 1, 2);
      x.mend(1, 4, 64);
      x.mend(0, 10, 6);
      int z = seed;
      int together = 0;
      for (int n = 1; n <= 30; n++) {
        z = z * 1103515245 + 12345;
        together += (z >>> 8) % 12 < 6 ? 12 : 11;
        due.is("SEED " + seed + ", " + n + " chairs", x.drawn(0, seed, n, 0), together);
      }
      Due.bytes(x, 0, 0, 3);
      due.is("one that is none draws none", x.drawn(0, seed, 30, 0), together);
      Due.bytes(x, 0, 0, 0);
      due.is("one that came before draws none", x.drawn(0, seed, 30, 0), together);
      due.is("these are whole", x.drawn(0, seed, 30, 1), 30);
    }
  }

  private static void drawnAsFarAsTheyDid() {
    due.promise(25);
    due.says("each from minute 0; DONE of those that went in, as far as they did; chairs that went in whole");
    HeldTillSet x = new HeldTillSet();
    x.joint(1, 2);
    x.joint(1, 2);
    Due.bytes(x, 0, 0, 1);
    Due.law(x, "5");
    due.is("hands are free again for each", x.drawn(0, 1, 30, 0), 30 * 12);
    x.mend(0, 7, 1);
    due.is("clamps too", x.drawn(0, 1, 30, 0), 30 * 7);
    x.stay(500);
    x.fit(0);
    due.is("whatever is NOW", x.drawn(0, 1, 1, 0), 7);
    x.mend(1, 5, 1);
    for (int slips = 0; slips <= 12; slips++) {
      x.mend(0, 10, slips);
      due.is("begun at once behind the first: soft yet", x.drawn(0, 7, 30, 1), 30);
    }
    x.mend(0, 7, 0);
    due.is("begun when the first has set", x.drawn(0, 7, 30, 1), 0);
  }
}
