/** Promises 21 to 25: drips read back, hands and clamps, draws. */
public final class DripsTest {
  private static final int BAD = -1, NOT = -2;
  private static final Due due = new Due("DripsTest");

  public static void main(String[] args) {
    judgeAndWhoRefuse();
    judge();
    which();
    who();
    byHand();
    drawnOne();
    drawnMany();
    due.end();
  }

  private static void judgeAndWhoRefuse() {
    for (int promise = 21; promise <= 23; promise += 2) {
      due.promise(promise);
      HeldTillSet x = Due.three();
      x.body(0);
      for (int od : new int[] {-1, 6, 9, 60, 66, 100, Integer.MIN_VALUE, Integer.MAX_VALUE}) {
        due.is("od " + od, ask(x, promise, od), BAD);
      }
      due.is("no drips", ask(x, promise, 1), -11);
      due.is("no order", ask(x, promise, 10), -11);
      due.is("an order for drips", ask(x, promise, 0), -12);
      x.keep(2, 0);
      due.is("a body for drips", ask(x, promise, 2), -12);
      due.is("a body for the order, no drips", ask(x, promise, 21), -11);
      due.is("no order, bytes for drips", ask(x, promise, 10), -11);
      x.row(1, 1, 0);
      due.is("a body for the order", ask(x, promise, 21), -12);
      due.is("shorts for the order", ask(x, promise, 11), -12);
      for (int sort = 2; sort <= 4; sort++) {
        x.row(3, sort, 2);
        due.is("drips of sort " + sort, ask(x, promise, 3), -12);
        due.is("an order of sort " + sort, ask(x, promise, 31), -12);
      }
    }
  }

  private static int ask(HeldTillSet x, int promise, int od) {
    return promise == 21 ? x.judge(od) : x.who(od);
  }

  private static void judge() {
    due.promise(21);
    HeldTillSet x = Due.three();
    long[][] drips = {{}, {0, 12, 1, 15, 2, 23}, {2, 23, 0, 12}, {0, 12, 1, 14, 2, 22}, {0, 11}, {3, 12}, {-1, 0}, {0, 12, 5},
      {0}, {0, 12, 1}, {0, 12, 0, 12, 0, 13}, {0, -12}, {7, -2}, {-1, -2}};
    int[] want = {NOT, NOT, NOT, 1, 0, 0, 0, 1, 0, 1, 2, 0, 0, 0};
    for (int i = 0; i < drips.length; i++) {
      Due.shorts(x, 1, drips[i]);
      due.is("drips " + i, x.judge(1), want[i]);
    }
    Due.bytes(x, 2, 0, 1, 1, 2);
    Due.shorts(x, 1, 0, 12, 2, 23);
    due.is("one that lacks in the order", x.judge(21), 1);
    Due.shorts(x, 1, 0, 12, 2, -2);
    due.is("one that lacks, and a minute like NOT", x.judge(21), 1);
    x.mend(2, 4, 8);
    Due.shorts(x, 1, 0, 12, 2, 23);
    due.is("one that does not go in", x.judge(1), 1);
  }

  private static void which() {
    due.promise(22);
    HeldTillSet x = new HeldTillSet();
    for (int j = 0; j < 3; j++) {
      x.joint(j + 1, 0);
      x.mend(j, 2, 0);
    }
    long[][] drips = {{}, {0, 11}, {2, 16}, {1, 12}, {2, 13}, {0, 11, 0, 12}, {0, 11, 0, 11}, {0}, {3, 11}, {-1, 11}, {0, -1},
      {0, 11, 1, 13}, {0, 11, 1}, {1, 12, 0, 16, 2, 15}, {0, -32768}};
    int[] many = {6, 2, 2, 2, 2, 0, 2, 0, 0, 0, 0, 1, 0, 1, 0};
    int[] first = {12, 12, 12, 102, 201, NOT, 12, NOT, NOT, NOT, NOT, 12, NOT, 120, NOT};
    for (int i = 0; i < drips.length; i++) {
      Due.shorts(x, 1, drips[i]);
      due.is("how many by drips " + i, x.which(1, 0), many[i]);
      due.is("the first by drips " + i, x.which(1, 1), first[i]);
    }
    due.is("what 2", x.which(1, 2), BAD);
    due.is("what -1", x.which(1, -1), BAD);
    due.is("shelf 6", x.which(6, 0), BAD);
    due.is("shelf -1", x.which(-1, 0), BAD);
    due.is("nothing", x.which(2, 0), -11);
    due.is("bad ahead of -11", x.which(2, 2), BAD);
    x.body(3);
    x.keep(2, 0);
    due.is("a body", x.which(2, 0), -12);
    for (int sort = 0; sort <= 4; sort++) {
      if (sort != 1) {
        x.row(2, sort, 2);
        due.is("a row of sort " + sort, x.which(2, 0), -12);
      }
    }
    x.row(1, 1, 0);
    x.mend(0, 4, 2);
    due.is("only orders that go in", x.which(1, 0), 3);
    due.is("the first of them", x.which(1, 1), 102);
    x.mend(0, 1, 3);
    due.is("none goes in", x.which(1, 0), 0);
    due.is("none goes in", x.which(1, 1), NOT);
    due.is("what was bound is free again", x.mend(0, 1, 0), 3);
    Due.shorts(x, 1, 0, 5);
    due.is("bound", x.which(1, 0), 0);
    due.is("free", x.can(1), 3);
  }

  private static void who() {
    due.promise(23);
    HeldTillSet x = new HeldTillSet();
    x.joint(1, 2);
    x.joint(1, 2);
    Due.bytes(x, 0, 0, 1);
    long[][] drips = {{}, {1, 22}, {1, 12}, {1, 13}, {0, 11}, {0, 11, 1}, {0, 11, 1, 12}, {2, 12}};
    int[] want = {0, 0, 1, NOT, 0, NOT, 1, NOT};
    for (int i = 0; i < drips.length; i++) {
      Due.shorts(x, 1, drips[i]);
      due.is("drips " + i, x.who(1), want[i]);
    }
    x.mend(0, 6, 3);
    Due.shorts(x, 1, 1, 22);
    due.is("without the men that are there", x.who(1), 0);
    due.is("MEN stay", x.of(0, 6), 3);
    x.mend(1, 1, 3);
    Due.shorts(x, 1, 0, 11);
    due.is("an order that is not whole may be so", x.who(1), 0);
    Due.shorts(x, 1, 1, 12);
    due.is("three hands", x.who(1), 1);
    HeldTillSet y = new HeldTillSet();
    for (int j = 0; j < 4; j++) {
      y.joint(1, 0);
      y.mend(j, 2, 2);
    }
    Due.bytes(y, 0, 0, 1, 2, 3);
    Due.shorts(y, 1, 3, 14);
    due.is("all three", y.who(1), 3);
  }

  private static void byHand() {
    due.promise(24);
    HeldTillSet x = Due.three();
    due.is("all by hand", x.byHand(0, 0), 7);
    due.is("no clamps", x.byHand(0, 1), 0);
    x.mend(0, 7, 1);
    due.is("the first by the clamp", x.byHand(0, 0), 6);
    due.is("one clamp", x.byHand(0, 1), 1);
    x.mend(0, 7, 6);
    due.is("all by clamps", x.byHand(0, 0), 0);
    due.is("three clamps", x.byHand(0, 1), 3);
    x.mend(0, 3, 0);
    due.is("one not clamped", x.byHand(0, 0), 1);
    Due.bytes(x, 0, 1, 2, 1, 0);
    due.is("of those that go in", x.byHand(0, 0), 0);
    due.is("of those that go in", x.byHand(0, 1), 2);
    x.mend(2, 4, 64);
    due.is("of those that go in", x.byHand(0, 1), 1);
  }

  private static void drawnOne() {
    due.promise(25);
    HeldTillSet x = new HeldTillSet();
    x.joint(2, 0);
    x.mend(0, 2, 0);
    Due.bytes(x, 0, 0);
    due.is("no slips", x.drawn(0, 0, 1, 0), 12);
    x.mend(0, 10, 1);
    // From 0: z is 12345, 48 above its lowest byte, 0 behind 12.
    due.is("it slips", x.drawn(0, 0, 1, 0), 14);
    x.mend(0, 10, 12);
    due.is("all slip", x.drawn(0, 99, 30, 0), 420);
    due.is("all go in", x.drawn(0, 99, 30, 1), 30);
    due.is("n 0", x.drawn(0, 1, 0, 0), BAD);
    due.is("n 31", x.drawn(0, 1, 31, 0), BAD);
    due.is("n -1", x.drawn(0, 1, -1, 0), BAD);
    due.is("what -1", x.drawn(0, 1, 1, -1), BAD);
    due.is("fitting in deed does not slip", x.fit(0), 2);
  }

  /** Joints that take no hands: the second is sprung in only if the first is soft yet. */
  private static void drawnMany() {
    due.promise(25);
    HeldTillSet x = new HeldTillSet();
    x.joint(1, 0);
    x.joint(3, 0);
    x.joint(1, 0);
    x.joint(1, 0);
    for (int j = 0; j < 4; j++) {
      x.mend(j, 2, 0);
    }
    x.mend(2, 5, 1);
    x.mend(0, 10, 5);
    Due.law(x, "5");
    Due.bytes(x, 0, 0, 1, 2, 3);
    for (int seed : new int[] {0, 1, -1, 7, 123456, Integer.MAX_VALUE, Integer.MIN_VALUE}) {
      int z = seed;
      int together = 0;
      int whole = 0;
      for (int n = 1; n <= 30; n++) {
        z = z * 1103515245 + 12345;
        int first = (z >>> 8) % 12 < 5 ? 2 : 1;
        z = z * 1103515245 + 12345;
        int second = first + ((z >>> 8) % 12 < 5 ? 6 : 3);
        if (first + 5 <= second) {
          together += second + 5;
        } else {
          z = z * 1103515245 + 12345;
          int third = second + ((z >>> 8) % 12 < 5 ? 2 : 1);
          z = z * 1103515245 + 12345;
          together += third + ((z >>> 8) % 12 < 5 ? 2 : 1) + 5;
          whole++;
        }
        due.is("drawn(0, " + seed + ", " + n + ", 0)", x.drawn(0, seed, n, 0), together);
        due.is("drawn(0, " + seed + ", " + n + ", 1)", x.drawn(0, seed, n, 1), whole);
      }
    }
  }
}
