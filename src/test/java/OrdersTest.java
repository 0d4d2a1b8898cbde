/** Promises 9 to 20: orders in thought, worked out by hand. */
public final class OrdersTest {
  private static final int BAD = -1, NOT = -2, VOID = -2000000000;
  private static final Due due = new Due("OrdersTest");

  public static void main(String[] args) {
    refusals();
    order();
    done();
    holding();
    can();
    soonest();
    need();
    glue();
    worth();
    inWay();
    dry();
    atOnce();
    wrong();
    round();
    due.end();
  }

  /** Joints that take no hands and need not be held. */
  private static HeldTillSet loose(int... fits) {
    HeldTillSet x = new HeldTillSet();
    for (int j = 0; j < fits.length; j++) {
      x.joint(fits[j], 0);
      x.mend(j, 2, 0);
    }
    return x;
  }

  private static long call(HeldTillSet x, int which, int shelf, int what) {
    switch (which) {
      case 9: return x.order(shelf, 0, what);
      case 10: return x.done(shelf, what);
      case 14: return x.glue(shelf, what);
      case 16: return x.inWay(shelf);
      case 19: return x.wrong(shelf, what);
      case 20: return x.round(shelf, what + 1);
      case 24: return x.byHand(shelf, what);
      default: return x.drawn(shelf, 1, 1, what);
    }
  }

  private static void refusals() {
    for (int which : new int[] {9, 10, 14, 16, 19, 20, 24, 25}) {
      due.promise(which);
      HeldTillSet x = Due.three();
      x.body(0);
      due.is("shelf -1", call(x, which, -1, 0), BAD);
      due.is("shelf 6", call(x, which, 6, 0), BAD);
      due.is("nothing", call(x, which, 1, 0), -11);
      x.keep(1, 0);
      due.is("a body", call(x, which, 1, 0), -12);
      for (int sort = 1; sort <= 4; sort++) {
        x.row(1, sort, 2);
        due.is("a row of sort " + sort, call(x, which, 1, 0), -12);
      }
      if (which != 16) {
        due.is("what -9", call(x, which, 0, -9), BAD);
        due.is("bad ahead of -11", call(x, which, 3, -9), BAD);
        due.is("bad ahead of -12", call(x, which, 1, -9), BAD);
      }
      if (which == 10 || which == 14 || which == 24 || which == 25) {
        due.is("what 2", call(x, which, 0, 2), BAD);
      }
    }
  }

  private static void order() {
    due.promise(9);
    HeldTillSet x = Due.three();
    int[][] want = {{0, 2, 12}, {2, 5, 15}, {12, 13, 23}};
    for (int k = 0; k < 3; k++) {
      for (int what = 0; what < 3; what++) {
        due.is("order(0, " + k + ", " + what + ")", x.order(0, k, what), want[k][what]);
      }
    }
    due.is("k 3", x.order(0, 3, 0), NOT);
    due.is("k far off", x.order(0, Integer.MAX_VALUE, 0), NOT);
    due.is("k -1", x.order(0, -1, 0), BAD);
    due.is("what 3", x.order(0, 0, 3), BAD);
    due.is("bad ahead of not", x.order(0, 9, 3), BAD);
    Due.bytes(x, 1, 2, 1);
    due.is("joint 2 first", x.order(1, 0, 1), 1);
    due.is("joint 1 second", x.order(1, 1, 1), 4);
    x.mend(0, 6, 1);
    due.is("with a brother", x.order(0, 2, 0), 5);
    due.is("thought is no deed", x.of(0, 11), 0);
    due.is("thought is no deed", x.of(0, 12), 0);
  }

  private static void done() {
    due.promise(10);
    HeldTillSet x = Due.three();
    due.is("how many", x.done(0, 0), 3);
    due.is("DONE", x.done(0, 1), 23);
    long[][] rows = {{0, 1, 0, 2}, {1, 7, 0}, {-1, 0}, {3, 0}, {1, 1}, {}, {2, 1, 0}, {0, 1, 2, 3, 4}, {1, 127}, {-128}};
    int[] in = {2, 1, 0, 0, 1, 0, 3, 3, 1, 0};
    int[] at = {15, 13, 0, 0, 13, 0, 26, 23, 13, 0};
    for (int i = 0; i < rows.length; i++) {
      Due.bytes(x, 1, rows[i]);
      due.is("how many of row " + i, x.done(1, 0), in[i]);
      due.is("DONE of row " + i, x.done(1, 1), at[i]);
    }
    x.row(2, 0, 60);
    due.is("sixty noughts", x.done(2, 0), 1);
    x.mend(1, 4, 1);
    Due.bytes(x, 1, 1, 0);
    due.is("NEEDS not ahead", x.done(1, 0), 0);
    due.is("NEEDS ahead", x.done(0, 0), 3);
    x.mend(2, 5, 1);
    due.is("SPRUNG: that minute counts", x.done(0, 0), 2);
    x.mend(0, 7, 1);
    due.is("SPRUNG, but a clamp freed a hand", x.done(0, 0), 3);
    due.is("DONE", x.done(0, 1), 16);
    x.mend(0, 1, 3);
    due.is("HANDS above all hands", x.done(0, 0), 0);
    x.mend(0, 6, 1);
    due.is("a brother's hands", x.done(0, 0), 3);
  }

  private static void holding() {
    due.promise(9);
    HeldTillSet x = new HeldTillSet();
    x.joint(1, 0);
    x.joint(9, 0);
    for (int j = 0; j < 2; j++) {
      x.mend(j, 2, 2);
      x.mend(j, 3, 0);
    }
    Due.bytes(x, 0, 0, 1);
    due.is("hands are not free behind it", x.done(0, 0), 1);
    Due.law(x, "9");
    due.is("free in the minute in which the first has set", x.done(0, 0), 2);
    due.promise(24);
    due.is("both by hand", x.byHand(0, 0), 3);
    due.is("no clamps", x.byHand(0, 1), 0);
    x.mend(0, 7, 1);
    due.is("not clamped", x.byHand(0, 0), 3);
    x.mend(0, 3, 1);
    x.mend(1, 3, 1);
    due.is("the clamp is free again", x.byHand(0, 0), 0);
    due.is("one at once", x.byHand(0, 1), 1);
    Due.law(x, "10");
    due.is("the clamp is not free yet", x.byHand(0, 0), 2);
    x.mend(0, 7, 2);
    due.is("two clamps", x.byHand(0, 0), 0);
    due.is("two at once", x.byHand(0, 1), 2);
    x.mend(0, 2, 0);
    due.is("what is not held takes no clamp", x.byHand(0, 1), 1);
    Due.law(x, "0");
    due.is("what sets at once is not held", x.byHand(0, 1), 0);
    due.is("nor by hands", x.byHand(0, 0), 0);
    due.is("DONE", x.done(0, 1), 10);
  }

  private static void can() {
    due.promise(11);
    HeldTillSet x = loose(1, 2, 3);
    due.is("any order", x.can(0), 1);
    due.is("six", x.can(1), 6);
    x.mend(1, 4, 1);
    due.is("1 behind 0", x.can(1), 3);
    x.mend(2, 4, 2);
    due.is("2 behind 1", x.can(1), 1);
    x.mend(0, 4, 4);
    due.is("a ring", x.can(0), 0);
    due.is("a ring", x.can(1), 0);
    due.is("what 2", x.can(2), BAD);
    due.is("what -1", x.can(-1), BAD);
    due.is("seven", loose(1, 2, 3, 4, 5, 6, 7).can(1), 5040);
    due.is("none", new HeldTillSet().can(1), 1);
  }

  private static void soonest() {
    due.promise(12);
    HeldTillSet x = loose(1, 2, 3);
    due.is("all alike", x.soonest(-1), 16);
    for (int k = 0; k < 3; k++) {
      due.is("the first by numbers", x.soonest(k), k);
    }
    Due.law(x, "f*10");
    int[] want = {2, 0, 1};
    due.is("the slow one first", x.soonest(-1), 33);
    for (int k = 0; k < 3; k++) {
      due.is("the " + k + "-th", x.soonest(k), want[k]);
    }
    due.is("k 3", x.soonest(3), NOT);
    due.is("k far off", x.soonest(Integer.MAX_VALUE), NOT);
    due.is("k -2", x.soonest(-2), BAD);
    due.is("k far below", x.soonest(Integer.MIN_VALUE), BAD);
    x.mend(0, 1, 3);
    due.is("none goes in", x.soonest(-1), NOT);
    due.is("none goes in", x.soonest(0), NOT);
    due.is("bad ahead of not", x.soonest(-2), BAD);
  }

  private static HeldTillSet twoHanded() {
    HeldTillSet x = new HeldTillSet();
    x.joint(1, 2);
    x.joint(1, 2);
    return x;
  }

  private static void need() {
    due.promise(13);
    HeldTillSet x = twoHanded();
    int[] minutes = {999, 22, 21, 12, 11, 0};
    int[] want = {0, 0, 1, 1, NOT, NOT};
    for (int i = 0; i < minutes.length; i++) {
      due.is("clamps for " + minutes[i], x.need(minutes[i], 0), want[i]);
      due.is("men for " + minutes[i], x.need(minutes[i], 1), want[i]);
    }
    x.mend(0, 7, 6);
    due.is("fewer than there are", x.need(22, 0), 0);
    due.is("men, with clamps", x.need(12, 1), 0);
    due.is("CLAMPS stay", x.of(0, 7), 6);
    due.is("MEN stay", x.of(0, 6), 0);
    HeldTillSet y = new HeldTillSet();
    for (int j = 0; j < 7; j++) {
      y.joint(1, 0);
      y.mend(j, 2, 2);
    }
    Due.law(y, "50");
    due.is("six clamps and two hands hold all seven", y.need(57, 0), 6);
    y.mend(0, 6, 1);
    due.is("five clamps and four hands", y.need(57, 0), 5);
    y.mend(6, 2, 0);
    y.mend(6, 1, 1);
    y.mend(0, 7, 2);
    due.is("eight hands and two clamps hold six", y.need(57, 1), 3);
    y.mend(6, 4, 63);
    due.is("a fourth brother would be needed behind them", y.need(57, 1), NOT);
    y.mend(0, 7, 3);
    due.is("with one clamp more a hand is free", y.need(57, 1), 3);
    due.is("m -1", x.need(-1, 0), BAD);
    due.is("m 1000", x.need(1000, 0), BAD);
    due.is("what 2", x.need(5, 2), BAD);
    due.is("what -1", x.need(5, -1), BAD);
  }

  private static void glue() {
    due.promise(14);
    HeldTillSet x = loose(1, 5, 1);
    Due.bytes(x, 0, 0, 1, 2);
    due.is("any", x.glue(0, 0), 99);
    due.is("any", x.glue(0, 1), 0);
    x.mend(2, 5, 1);
    due.is("sprung in while the first is soft", x.glue(0, 0), 14);
    due.is("the least", x.glue(0, 1), 0);
    x.mend(2, 5, 0);
    x.mend(0, 2, 2);
    x.mend(0, 3, 0);
    x.mend(1, 2, 2);
    x.mend(1, 3, 0);
    due.is("the least that lets go", x.glue(0, 1), 15);
    due.is("the greatest", x.glue(0, 0), 99);
    due.is("GLUE stays", x.of(0, 8), 10);
    x.mend(0, 1, 3);
    due.is("never", x.glue(0, 0), NOT);
    due.is("never", x.glue(0, 1), NOT);
    Due.bytes(x, 1, 9, 0);
    due.is("an order that ends at once is whole", x.glue(1, 0), 99);
    Due.law(x, "g%10=7?0;50");
    x.mend(0, 1, 0);
    due.is("by a law that is not even: greatest", x.glue(0, 0), 97);
    due.is("by a law that is not even: least", x.glue(0, 1), 7);
    Due.law(x, "g<99?50;0");
    due.is("99 alone", x.glue(0, 1), 99);
    due.is("99 alone", x.glue(0, 0), 99);
    Due.law(x, "g>0?50;0");
    due.is("0 alone", x.glue(0, 1), 0);
    due.is("0 alone", x.glue(0, 0), 0);
  }

  private static void worth() {
    due.promise(15);
    HeldTillSet x = twoHanded();
    due.is("a clamp", x.worth(0), 10);
    due.is("a brother", x.worth(1), 10);
    x.mend(0, 7, 6);
    due.is("a seventh clamp", x.worth(0), 0);
    x.mend(0, 7, 0);
    x.mend(0, 6, 3);
    due.is("a fourth brother", x.worth(1), 0);
    due.is("what 2", x.worth(2), VOID);
    due.is("what -1", x.worth(-1), VOID);
    x.mend(0, 6, 0);
    x.mend(0, 1, 3);
    due.is("not now", x.worth(0), VOID);
    due.is("not now, but then", x.worth(1), VOID);
    HeldTillSet y = new HeldTillSet();
    for (int j = 0; j < 4; j++) {
      y.joint(1, 0);
      y.mend(j, 2, 2);
      y.mend(j, 3, 0);
    }
    y.joint(1, 2);
    y.mend(4, 2, 0);
    y.mend(4, 4, 15);
    y.mend(0, 6, 3);
    due.is("beyond what they may be", y.worth(1), 7);
    due.is("MEN stay", y.of(0, 6), 3);
    // Hands that hold keep the last joint waiting, till what it must be sprung in by is fast.
    HeldTillSet z = new HeldTillSet();
    z.joint(1, 0);
    z.joint(1, 0);
    z.mend(0, 2, 0);
    z.mend(1, 4, 1);
    z.mend(1, 5, 1);
    Due.law(z, "1+h*5");
    due.is("the second is sprung in ahead of minute 2", z.worth(0), 0);
    Due.law(z, "0");
    due.is("what is fast at once", z.worth(0), VOID);
  }

  private static void inWay() {
    due.promise(16);
    HeldTillSet x = loose(1, 1, 1);
    Due.bytes(x, 0, 1, 0, 2);
    due.is("whole", x.inWay(0), 0);
    x.mend(1, 4, 32);
    due.is("needs what is not there", x.inWay(0), 2);
    x.mend(1, 4, 0);
    for (int j = 0; j < 2; j++) {
      x.mend(j, 2, 2);
      x.mend(j, 3, 0);
    }
    due.is("either of two", x.inWay(0), 3);
    Due.bytes(x, 0, 0, 1);
    due.is("not more of them", x.inWay(0), 0);
    Due.bytes(x, 0, 0, 1, 1, 2);
    due.is("the order ended ahead of 2", x.inWay(0), 0);
  }

  private static void dry() {
    due.promise(17);
    HeldTillSet x = new HeldTillSet();
    for (int j = 0; j < 3; j++) {
      x.joint(1, 1);
    }
    due.is("two hands hold two", x.dry(), 2);
    Due.law(x, "0");
    due.is("nothing sets", x.dry(), 2);
    x.mend(0, 7, 1);
    due.is("a clamp", x.dry(), 3);
    x.mend(0, 3, 0);
    x.mend(0, 4, 6);
    due.is("the unclamped last", x.dry(), 3);
    x.mend(0, 7, 0);
    due.is("no clamp again", x.dry(), 2);
    x.mend(2, 1, 0);
    x.mend(2, 2, 0);
    due.is("one is not held", x.dry(), 3);
    x.mend(0, 6, 1);
    x.mend(2, 5, 3);
    due.is("nothing is fast", x.dry(), 3);
    due.is("what sets, sets again", x.sets(0), 0);
    due.is("orders behind it", x.can(1), 1);
    x.mend(2, 5, 0);
    due.is("orders behind it", x.can(1), 2);
  }

  private static void atOnce() {
    due.promise(18);
    HeldTillSet x = loose(1, 1, 1, 1);
    x.mend(0, 1, 1);
    x.mend(1, 1, 1);
    x.mend(2, 1, 2);
    int[] sets = {0, 3, 7, 4, 12, 8, 5, 11, 15};
    int[] want = {1, 1, 0, 1, 1, 1, 0, 1, 0};
    for (int i = 0; i < sets.length; i++) {
      due.is("atOnce(" + sets[i] + ")", x.atOnce(sets[i]), want[i]);
    }
    due.is("the greatest", x.atOnce(-1), 11);
    x.mend(1, 4, 1);
    due.is("one needs the other", x.atOnce(3), 0);
    due.is("without the other", x.atOnce(2), 0);
    due.is("what is needed alone", x.atOnce(1), 1);
    due.is("the least bits", x.atOnce(-1), 9);
    x.mend(0, 6, 3);
    due.is("more hands", x.atOnce(-1), 13);
    x.fit(0);
    due.is("fitted in deed, not in minute 0", x.atOnce(2), 0);
    x.mend(1, 4, 64);
    due.is("needs one that never came", x.atOnce(2), 0);
    x.mend(1, 4, 0);
    due.is("needs none again", x.atOnce(2), 1);
    due.is("all", x.atOnce(-1), 15);
    x.mend(1, 5, 13);
    due.is("sprung, but nothing has set", x.atOnce(15), 1);
    for (int j = 0; j < 4; j++) {
      x.mend(j, 4, j == 0 ? 2 : 1);
    }
    due.is("each needs one", x.atOnce(-1), 0);
    due.is("none", x.atOnce(0), 1);
    due.is("16", x.atOnce(16), BAD);
    due.is("-2", x.atOnce(-2), BAD);
    due.is("the greatest int", x.atOnce(Integer.MAX_VALUE), BAD);
    due.is("the least int", x.atOnce(Integer.MIN_VALUE), BAD);
  }

  private static void wrong() {
    due.promise(19);
    HeldTillSet x = Due.three();
    int[] ki = {0, 1, 11, 12, 22, 2, 3, 13, 33, 99, 10, 21, 100, -1, Integer.MIN_VALUE, Integer.MAX_VALUE};
    int[] want = {27, 32, 23, 31, 26, 42, NOT, NOT, NOT, NOT, BAD, BAD, BAD, BAD, BAD, BAD};
    for (int i = 0; i < ki.length; i++) {
      due.is("wrong(0, " + ki[i] + ")", x.wrong(0, ki[i]), want[i]);
    }
    due.is("the order itself", x.done(0, 1), 23);
    x.mend(2, 5, 1);
    due.is("not whole anew", x.wrong(0, 11), NOT);
    Due.law(x, "4");
    x.mend(2, 5, 0);
    x.mend(1, 5, 1);
    due.is("whole at first", x.done(0, 0), 3);
    due.is("fast by then", x.wrong(0, 11), NOT);
    due.is("sawn apart too", x.wrong(0, 0), 15);
  }

  private static void round() {
    due.promise(20);
    HeldTillSet x = Due.three();
    due.is("one", x.round(0, 1), 23);
    due.is("two", x.round(0, 2), 46);
    due.is("five", x.round(0, 5), 115);
    due.is("none", x.round(0, 0), BAD);
    due.is("six", x.round(0, 6), BAD);
    Due.bytes(x, 1, 1);
    int[] want = {13, 16, 26};
    for (int n = 1; n <= 3; n++) {
      due.is(n + " of one joint", x.round(1, n), want[n - 1]);
    }
    x.mend(0, 7, 1);
    due.is("a clamp stays with the first", x.round(1, 4), 29);
    HeldTillSet y = loose(1, 1);
    Due.bytes(y, 0, 0, 1);
    Due.law(y, "3");
    y.mend(1, 5, 1);
    due.is("sprung by its own chair alone", y.round(0, 3), 9);
    Due.law(y, "n*10+1");
    due.is("fitted on its own chair", y.round(0, 2), 15);
    y.mend(1, 4, 1);
    Due.bytes(y, 0, 1, 0);
    due.is("does not go in", y.round(0, 1), NOT);
    Due.bytes(y, 0);
    due.is("nothing", y.round(0, 5), 0);
  }
}
