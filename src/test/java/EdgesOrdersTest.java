import java.util.Arrays;

/** Each edge that the document names for promises 9 to 20: orders in thought. */
public final class EdgesOrdersTest {
  private static final int BAD = -1, NOT = -2, VOID = -2000000000;
  private static final int MIN = Integer.MIN_VALUE, MAX = Integer.MAX_VALUE;
  private static final Due due = new Due("EdgesOrdersTest");

  public static void main(String[] args) {
    shelvesOfOrders();
    whatIsAsked();
    kOfOrder();
    fromMinuteNought();
    whereTheOrderEnds();
    minutesToFit();
    handsFree();
    moreThanAllHands();
    handsThatHold();
    heldByNone();
    clampsFirst();
    clampIsFree();
    needs();
    sprung();
    howManyByThen();
    can();
    soonest();
    soonestOfLikeOnes();
    needMinutes();
    needClamps();
    needMen();
    glue();
    worth();
    inWay();
    dry();
    atOnceSets();
    atOnceHands();
    wrong();
    wrongHolds();
    roundOf1To5();
    roundHolds();
    due.end();
  }

  /** Joints that take no hands and are not held. */
  private static HeldTillSet loose(int... fits) {
    HeldTillSet x = new HeldTillSet();
    for (int j = 0; j < fits.length; j++) {
      x.joint(fits[j], 0);
      x.mend(j, 2, 0);
    }
    return x;
  }

  /** Joints of 1 minute and some hands, held by so many and by no clamp; their order on shelf 0. */
  private static HeldTillSet held(String law, int hands, int... held) {
    HeldTillSet x = new HeldTillSet();
    for (int j = 0; j < held.length; j++) {
      x.joint(1, hands);
      x.mend(j, 2, held[j]);
      x.mend(j, 3, 0);
    }
    Due.law(x, law);
    upward(x, 0, held.length);
    return x;
  }

  /** The order 0, 1, 2 .. on a shelf. */
  private static void upward(HeldTillSet x, int shelf, int n) {
    x.row(shelf, 0, n);
    for (int i = 0; i < n; i++) {
      x.put(shelf, i, i);
    }
  }

  private static long call(HeldTillSet x, int promise, int shelf, int what) {
    switch (promise) {
      case 9: return x.order(shelf, 0, what);
      case 10: return x.done(shelf, what);
      case 14: return x.glue(shelf, what);
      case 16: return x.inWay(shelf);
      case 19: return x.wrong(shelf, what);
      case 20: return x.round(shelf, what + 1);
      case 24: return x.byHand(shelf, what);
      default: return x.drawn(shelf, 1, 1, what);
    }
  }

  private static void shelvesOfOrders() {
    int[] promises = {9, 10, 14, 16, 19, 20, 24, 25};
    int[] wants = {0, 1, 99, 0, 14, 11, 0, 11};
    for (int i = 0; i < promises.length; i++) {
      due.promise(promises[i]);
      due.says("an ORDER on a SHELF; BAD, -11, -12 (no ROW of bytes)");
      for (int shelf : new int[] {MIN, -1, 6, 7, MAX}) {
        due.is("shelf " + shelf, call(loose(1), promises[i], shelf, 0), BAD);
      }
      for (int shelf = 0; shelf <= 5; shelf++) {
        HeldTillSet x = loose(1);
        due.is("nothing on shelf " + shelf, call(x, promises[i], shelf, 0), -11);
        upward(x, shelf, 1);
        due.is("an order on shelf " + shelf, call(x, promises[i], shelf, 0), wants[i]);
        x.body(0);
        x.keep(shelf, 0);
        due.is("a body on shelf " + shelf, call(x, promises[i], shelf, 0), -12);
        for (int sort = 1; sort <= 4; sort++) {
          x.row(shelf, sort, 1);
          due.is("a row of sort " + sort, call(x, promises[i], shelf, 0), -12);
        }
        x.keep(shelf, -1);
        due.is("nothing again", call(x, promises[i], shelf, 0), -11);
      }
    }
  }

  private static void whatIsAsked() {
    for (int promise : new int[] {9, 10, 14, 19, 20, 24, 25}) {
      due.promise(promise);
      due.says("BAD is named first");
      HeldTillSet x = loose(1);
      upward(x, 0, 1);
      x.row(1, 1, 1);
      int below = promise == 20 ? -2 : -1;
      for (int what : new int[] {MIN, below}) {
        for (int shelf = 0; shelf <= 2; shelf++) {
          due.is("what " + what + " of shelf " + shelf, call(x, promise, shelf, what), BAD);
        }
      }
      int above = promise == 9 ? 3 : promise == 20 ? 5 : 2;
      for (int shelf = 0; shelf <= 2 && promise != 19; shelf++) {
        due.is("what " + above + " of shelf " + shelf, call(x, promise, shelf, above), BAD);
        due.is("the greatest what", call(x, promise, shelf, promise == 20 ? MAX - 1 : MAX), BAD);
      }
    }
  }

  private static void kOfOrder() {
    due.promise(9);
    due.says("The k-th is begun (what 0), fitted (1), SET (2). NOT: not as many go in");
    for (int n = 0; n <= 7; n++) {
      HeldTillSet x = loose(1, 1, 1, 1, 1, 1, 1);
      upward(x, 0, n);
      for (int k = 0; k <= 8; k++) {
        due.is("begun, " + k + " of " + n, x.order(0, k, 0), k < n ? k : NOT);
        due.is("fitted, " + k + " of " + n, x.order(0, k, 1), k < n ? k + 1 : NOT);
        due.is("set, " + k + " of " + n, x.order(0, k, 2), k < n ? k + 11 : NOT);
      }
      for (int what = 0; what <= 2; what++) {
        due.is("k -1", x.order(0, -1, what), BAD);
        due.is("the least k", x.order(0, MIN, what), BAD);
        due.is("the greatest k", x.order(0, MAX, what), NOT);
      }
      due.is("k and what", x.order(0, -1, 3), BAD);
      due.is("bad is ahead of not", x.order(0, 7, 3), BAD);
    }
    HeldTillSet x = loose(1, 1, 1);
    x.mend(1, 4, 4);
    upward(x, 0, 3);
    due.is("the last that goes in", x.order(0, 0, 0), 0);
    due.is("the first that does not", x.order(0, 1, 0), NOT);
    due.is("one behind it", x.order(0, 2, 0), NOT);
  }

  private static void fromMinuteNought() {
    due.promise(9);
    due.says("AN ORDER of JOINTS, from minute 0");
    HeldTillSet x = Due.three();
    x.fit(0);
    x.stay(500);
    due.is("whatever is NOW", x.order(0, 0, 0), 0);
    due.is("whatever is fitted", x.done(0, 0), 3);
    due.is("DONE", x.done(0, 1), 23);
  }

  private static void whereTheOrderEnds() {
    due.promise(10);
    due.says("an ORDER (one that is none, or came before, ends it); DONE (0: none)");
    long[][] rows = {{}, {0}, {6}, {7}, {-1}, {127}, {-128}, {0, 7}, {0, 7, 1}, {0, -1, 1}, {0, 0}, {0, 0, 1}, {1, 0, 1, 2},
      {6, 5, 4, 3, 2, 1, 0}, {6, 5, 4, 3, 2, 1, 0, 6}, {6, 5, 4, 3, 2, 1, 0, 7}, {6, 5, 4, 3, 2, 1, 1, 0}, {256, 257}, {0, 1, 255}};
    int[] in = {0, 1, 1, 0, 0, 0, 0, 1, 1, 1, 1, 1, 2, 7, 7, 7, 6, 2, 2};
    for (int i = 0; i < rows.length; i++) {
      HeldTillSet x = loose(1, 1, 1, 1, 1, 1, 1);
      Due.bytes(x, 0, rows[i]);
      due.is("how many of " + Arrays.toString(rows[i]), x.done(0, 0), in[i]);
      due.is("DONE of " + Arrays.toString(rows[i]), x.done(0, 1), in[i] == 0 ? 0 : in[i] + 10);
      due.is("whole, as far as it is one", x.glue(0, 0), 99);
    }
    for (int size = 0; size <= 7; size++) {
      HeldTillSet x = loose(new int[] {1, 1, 1, 1, 1, 1, 1, 1}, size);
      upward(x, 0, 7);
      due.is("of " + size + " joints", x.done(0, 0), size);
      x.row(1, 0, 60);
      due.is("sixty noughts", x.done(1, 0), Math.min(1, size));
      for (int i = 0; i < 7; i++) {
        x.put(1, i, 6 - i);
      }
      due.is("from the seventh on", x.done(1, 0), size == 7 ? 7 : 0);
    }
    HeldTillSet x = loose(1, 1);
    Due.bytes(x, 0, 0, 1);
    x.mend(0, 4, 2);
    due.is("the first does not go in", x.done(0, 0), 0);
    due.is("0: none", x.done(0, 1), 0);
  }

  private static HeldTillSet loose(int[] fits, int size) {
    return loose(Arrays.copyOf(fits, size));
  }

  private static void minutesToFit() {
    due.promise(9);
    due.says("It is fitted FITS minutes behind that in which it is begun");
    for (int fits = 1; fits <= 9; fits++) {
      HeldTillSet x = loose(fits, 1);
      upward(x, 0, 2);
      due.is("fitted", x.order(0, 0, 1), fits);
      due.is("the next one is begun", x.order(0, 1, 0), fits);
      due.is("set", x.order(0, 0, 2), fits + 10);
    }
    HeldTillSet x = loose(9, 9, 9, 9, 9, 9, 9);
    upward(x, 0, 7);
    Due.law(x, "9999");
    due.is("the longest of all", x.done(0, 1), 63 + 99);
    Due.law(x, "0");
    due.is("set in the minute in which it is fitted", x.order(0, 6, 2), 63);
  }

  private static void handsFree() {
    due.promise(9);
    due.says("the first minute in which its HANDS are free: all hands less those that still hold");
    int[][] begun = {{1, 1, 1}, {1, 1, 8}, {1, 8, 8}};
    for (int hold = 0; hold <= 2; hold++) {
      for (int wants = 0; wants <= 2; wants++) {
        HeldTillSet x = held("7", 2, hold, 0);
        x.mend(1, 1, wants);
        due.is(hold + " hold, " + wants + " are wanted", x.order(0, 1, 0), begun[hold][wants]);
      }
    }
    for (int set = 1; set <= 4; set++) {
      HeldTillSet x = held("k=0?" + set + ";9", 0, 1, 0, 0);
      x.mend(1, 0, 3);
      x.mend(2, 1, 2);
      due.is("till that in which it has set, in " + (set + 1), x.order(0, 2, 0), Math.max(4, set + 1));
    }
    HeldTillSet x = held("k=0?10;k=1?4;9", 0, 1, 1, 0);
    int[] at = {2, 6, 11};
    for (int wants = 0; wants <= 2; wants++) {
      x.mend(2, 1, wants);
      due.is("two hold, till 6 and 11; wanted " + wants, x.order(0, 2, 0), at[wants]);
    }
  }

  private static void moreThanAllHands() {
    due.promise(9);
    due.says("it will NOT GO IN, if its HANDS are more than all hands (OWN: 2; MEN: 2 each)");
    for (int men = 0; men <= 3; men++) {
      for (int hands = 0; hands <= 3; hands++) {
        HeldTillSet x = loose(1);
        upward(x, 0, 1);
        x.mend(0, 1, hands);
        x.mend(0, 6, men);
        due.is(hands + " with " + men + " men", x.done(0, 0), hands <= 2 + 2 * men ? 1 : 0);
      }
    }
    for (int men = 0; men <= 3; men++) {
      HeldTillSet x = held("50", 0, 2, 2, 2, 2, 2);
      x.mend(0, 6, men);
      due.is("so many are held by two hands", x.done(0, 0), 1 + men);
    }
  }

  private static void handsThatHold() {
    due.promise(9);
    due.says("it will NOT GO IN, if behind it not as many hands are free as HELD takes");
    int[][] in = {{3, 3, 3}, {3, 3, 2}, {3, 2, 2}};
    for (int second = 0; second <= 2; second++) {
      for (int third = 0; third <= 2; third++) {
        HeldTillSet x = held("9", 0, 0, second, third);
        due.is("held by " + second + " and " + third, x.done(0, 0), in[second][third]);
      }
    }
    for (int set = 1; set <= 3; set++) {
      HeldTillSet x = held("k=0?" + set + ";9", 0, 2, 0, 1);
      due.is("the first has set in " + (set + 1) + ", the third is fitted in 3", x.done(0, 0), set <= 2 ? 3 : 2);
      x.mend(2, 0, 2);
      due.is("the third is fitted in 4", x.done(0, 0), 3);
    }
  }

  private static void heldByNone() {
    due.promise(9);
    due.says("HELD (0 .. 2)");
    HeldTillSet x = held("50", 0, 2, 0, 0, 0, 0, 0, 0);
    due.is("no hand is free, none is wanted", x.done(0, 0), 7);
    x.mend(6, 2, 1);
    due.is("one is wanted", x.done(0, 0), 6);
  }

  private static void clampsFirst() {
    due.promise(24);
    due.says("a clamp holds it, if it is CLAMPED and one is free (clamps first), else HELD hands; CLAMPS (0 .. 6)");
    for (int clamps = 0; clamps <= 6; clamps++) {
      HeldTillSet x = held("50", 0, 1, 1, 1, 1, 1, 1, 1);
      x.mend(0, 6, 3);
      x.mend(0, 7, clamps);
      due.is("not CLAMPED", x.byHand(0, 0), 127);
      due.is("no clamp", x.byHand(0, 1), 0);
      for (int j = 0; j < 7; j++) {
        x.mend(j, 3, 1);
      }
      due.is("what hands hold behind " + clamps + " clamps", x.byHand(0, 0), 127 - ((1 << clamps) - 1));
      due.is("clamps at once", x.byHand(0, 1), clamps);
    }
    HeldTillSet x = held("50", 0, 2, 2);
    x.mend(0, 7, 1);
    x.mend(0, 3, 1);
    due.is("one clamp instead of two hands", x.done(0, 0), 2);
    due.is("the other by hands", x.byHand(0, 0), 2);
    x.mend(0, 7, 0);
    due.is("without it", x.done(0, 0), 1);
    HeldTillSet y = held("50", 0, 0, 1);
    y.mend(0, 3, 1);
    y.mend(1, 3, 1);
    y.mend(0, 7, 1);
    due.is("what is not held takes no clamp", y.byHand(0, 0), 0);
    due.is("one clamp", y.byHand(0, 1), 1);
  }

  private static void clampIsFree() {
    due.promise(24);
    due.says("held till that in which it has SET; then it is not");
    for (int set = 1; set <= 4; set++) {
      HeldTillSet x = held("k=0?" + set + ";9", 0, 1, 0, 1);
      x.mend(0, 3, 1);
      x.mend(2, 3, 1);
      x.mend(0, 7, 1);
      boolean free = set + 1 <= 3;
      due.is("the first has set in " + (set + 1) + ", the third is fitted in 3", x.byHand(0, 0), free ? 0 : 4);
      due.is("one clamp at once", x.byHand(0, 1), 1);
      x.mend(0, 7, 2);
      due.is("none by hand", x.byHand(0, 0), 0);
      due.is("clamps at once of two", x.byHand(0, 1), free ? 1 : 2);
    }
    HeldTillSet x = held("0", 0, 2, 2, 2);
    x.mend(0, 7, 1);
    due.is("what sets as it is fitted is not held", x.byHand(0, 0), 0);
    due.is("nor by a clamp", x.byHand(0, 1), 0);
  }

  private static void needs() {
    due.promise(10);
    due.says("NEEDS not all fitted ahead of it in the ORDER: it will NOT GO IN");
    for (int need = 0; need <= 126; need += 2) {
      HeldTillSet x = loose(1, 1, 1, 1, 1, 1, 1);
      x.mend(0, 4, need);
      Due.bytes(x, 0, 1, 2, 3, 0, 4, 5, 6);
      due.is("0 needs " + need, x.done(0, 0), (need & ~14) == 0 ? 7 : 3);
      Due.bytes(x, 0, 1, 2, 3, 4, 5, 6, 0);
      due.is("0 is the last, and needs " + need, x.done(0, 0), 7);
    }
    HeldTillSet x = loose(1, 1);
    x.mend(1, 4, 4);
    upward(x, 0, 2);
    due.is("one that is not there", x.done(0, 0), 1);
    x.joint(1, 0);
    due.is("one that is not in the order", x.done(0, 0), 1);
    Due.bytes(x, 0, 2, 1);
    due.is("ahead", x.done(0, 0), 2);
    Due.bytes(x, 0, 1, 2);
    due.is("behind", x.done(0, 0), 0);
  }

  private static void sprung() {
    due.promise(10);
    due.says("SPRUNG one that has SET by the minute in which it is begun (that minute counts): it will NOT GO IN");
    for (int set = 0; set <= 4; set++) {
      HeldTillSet x = loose(1, 2, 1);
      x.mend(2, 5, 1);
      Due.law(x, "k=0?" + set + ";9");
      upward(x, 0, 3);
      due.is("set in " + (1 + set) + ", begun in 3", x.done(0, 0), 1 + set <= 3 ? 2 : 3);
    }
    HeldTillSet x = loose(1, 2, 1);
    x.mend(2, 5, 3);
    Due.law(x, "k=1?0;9");
    upward(x, 0, 3);
    due.is("one of two has set", x.done(0, 0), 2);
    Due.law(x, "9");
    due.is("neither has", x.done(0, 0), 3);
    Due.law(x, "0");
    Due.bytes(x, 0, 2, 1, 0);
    due.is("they come behind it", x.done(0, 0), 3);
    HeldTillSet y = held("5", 0, 1, 0);
    y.mend(1, 1, 2);
    y.mend(1, 5, 1);
    due.is("its hands are free only when the other has set", y.done(0, 0), 1);
    y.mend(1, 1, 1);
    due.is("a hand is free at once", y.done(0, 0), 2);
  }

  private static void howManyByThen() {
    due.promise(9);
    due.says("n how many JOINTS are fitted by then");
    HeldTillSet x = loose(1, 1, 1, 1, 1, 1, 1);
    Due.law(x, "n*10");
    upward(x, 0, 7);
    for (int k = 0; k < 7; k++) {
      due.is("the " + k + "-th", x.order(0, k, 2), k + 1 + 10 * k);
    }
    Due.bytes(x, 0, 6, 5);
    due.is("by its place, not by its number", x.order(0, 1, 2), 12);
  }

  private static void can() {
    due.promise(11);
    due.says("CAN: 1, 0 (what 0), how many ORDERS (1). BAD");
    int[] orders = {1, 1, 2, 6, 24, 120, 720, 5040};
    for (int size = 0; size <= 7; size++) {
      HeldTillSet x = loose(new int[] {1, 1, 1, 1, 1, 1, 1}, size);
      due.is("of " + size, x.can(0), 1);
      due.is("orders of " + size, x.can(1), orders[size]);
      for (int what : new int[] {MIN, -1, 2, 3, MAX}) {
        due.is("can(" + what + ")", x.can(what), BAD);
      }
      for (int j = 1; j < size; j++) {
        x.mend(j, 4, 1 << (j - 1));
      }
      due.is("one order alone", x.can(1), 1);
      due.is("one is enough", x.can(0), 1);
      if (size > 0) {
        x.mend(size - 1, 1, 3);
        due.is("the last does not go in", x.can(0), 0);
        due.is("none", x.can(1), 0);
      }
    }
  }

  private static void soonest() {
    due.promise(12);
    due.says("SOONEST: DONE (k -1), the k-th. BAD; NOT");
    int[] wants = {0, 11, 12, 13, 14, 15, 16, 17};
    for (int size = 0; size <= 7; size++) {
      HeldTillSet x = loose(new int[] {1, 1, 1, 1, 1, 1, 1}, size);
      due.is("DONE of " + size, x.soonest(-1), wants[size]);
      for (int k = 0; k <= 7; k++) {
        due.is("the " + k + "-th of " + size, x.soonest(k), k < size ? k : NOT);
      }
      due.is("the greatest k", x.soonest(MAX), NOT);
      due.is("k -2", x.soonest(-2), BAD);
      due.is("the least k", x.soonest(MIN), BAD);
      if (size > 0) {
        x.mend(0, 1, 3);
        for (int k = -1; k <= size; k++) {
          due.is("none goes in whole", x.soonest(k), NOT);
        }
        due.is("bad is ahead of not", x.soonest(-2), BAD);
      }
    }
  }

  private static void soonestOfLikeOnes() {
    due.promise(12);
    due.says("the one that is DONE first (of like ones the first by numbers)");
    HeldTillSet x = loose(1, 1, 1, 1);
    Due.law(x, "k=2?20;k=3?20;1");
    // Both 2 and 3 set slowly: 2, 3 ahead of all is as soon as 3, 2.
    int[] first = {2, 3, 0, 1};
    due.is("DONE", x.soonest(-1), 22);
    for (int k = 0; k < 4; k++) {
      due.is("the " + k + "-th", x.soonest(k), first[k]);
    }
    Due.law(x, "k=3?20;k=2?19;1");
    int[] second = {3, 2, 0, 1};
    due.is("DONE", x.soonest(-1), 21);
    for (int k = 0; k < 4; k++) {
      due.is("a minute sooner: the " + k + "-th", x.soonest(k), second[k]);
    }
  }

  private static void needMinutes() {
    due.promise(13);
    due.says("by minute m (0 .. 999). BAD; NOT");
    for (int what = 0; what <= 1; what++) {
      HeldTillSet x = loose(1);
      for (int m : new int[] {MIN, -1, 1000, MAX}) {
        due.is("need(" + m + ", " + what + ")", x.need(m, what), BAD);
      }
      int[] minutes = {0, 1, 10, 11, 12, 999};
      int[] wants = {NOT, NOT, NOT, 0, 0, 0};
      for (int i = 0; i < minutes.length; i++) {
        due.is("need(" + minutes[i] + ", " + what + ")", x.need(minutes[i], what), wants[i]);
      }
      due.is("no joints by minute 0", new HeldTillSet().need(0, what), 0);
      due.is("no joints by minute 999", new HeldTillSet().need(999, what), 0);
      x.mend(0, 4, 2);
      due.is("no order goes in", x.need(999, what), NOT);
    }
    for (int what : new int[] {MIN, -1, 2, MAX}) {
      due.is("what " + what, loose(1).need(11, what), BAD);
    }
    HeldTillSet x = loose(9, 9, 9, 9, 9, 9, 9);
    Due.law(x, "99");
    due.is("the longest of all, a minute short", x.need(161, 0), NOT);
    due.is("the longest of all", x.need(162, 0), 0);
  }

  private static void needClamps() {
    due.promise(13);
    due.says("CLAMPS FOR: the fewest CLAMPS (0 .. 6) by which some ORDER of all is DONE by minute m; NOT");
    for (int size = 1; size <= 7; size++) {
      int[] held = new int[size];
      Arrays.fill(held, 2);
      HeldTillSet x = held("50", 0, held);
      for (int j = 0; j < size; j++) {
        x.mend(j, 3, 1);
      }
      for (int clamps = 0; clamps <= 6; clamps += 3) {
        x.mend(0, 7, clamps);
        due.is("two hands hold one of " + size, x.need(size + 50, 0), size - 1);
        due.is("CLAMPS stay", x.of(0, 7), clamps);
        due.is("a minute too early", x.need(size + 49, 0), NOT);
      }
      x.mend(0, 3, 0);
      due.is("one that no clamp holds is held by hands", x.need(size + 50, 0), size - 1);
      x.mend(size - 1, 3, 0);
      due.is("of two such ones hands hold one alone", x.need(size + 50, 0), size == 1 ? 0 : NOT);
    }
  }

  private static void needMen() {
    due.promise(13);
    due.says("MEN FOR: the fewest MEN (0 .. 3) likewise; NOT");
    for (int size = 1; size <= 5; size++) {
      int[] held = new int[size];
      Arrays.fill(held, 2);
      HeldTillSet x = held("50", 0, held);
      for (int men = 0; men <= 3; men++) {
        x.mend(0, 6, men);
        due.is("two hands for each of " + size, x.need(size + 50, 1), size <= 4 ? size - 1 : NOT);
        due.is("MEN stay", x.of(0, 6), men);
        due.is("a minute too early", x.need(size + 49, 1), NOT);
      }
    }
  }

  private static void glue() {
    due.promise(14);
    due.says("the greatest GLUE (0 .. 99) by which an ORDER goes in whole; the least; NOT");
    String[] laws = {"0", "50", "g<99?50;0", "g>0?50;0", "g=98?0;50", "g=1?0;50", "g=0|g=99?0;50", "g>97?50;0", "g<2?50;0"};
    int[] most = {99, NOT, 99, 0, 98, 1, 99, 97, 99};
    int[] least = {0, NOT, 99, 0, 98, 1, 0, 0, 2};
    for (int i = 0; i < laws.length; i++) {
      HeldTillSet x = held(laws[i], 0, 2, 2);
      for (int glue = 0; glue <= 99; glue += 33) {
        x.mend(0, 8, glue);
        due.is("greatest by " + laws[i], x.glue(0, 0), most[i]);
        due.is("least by " + laws[i], x.glue(0, 1), least[i]);
        due.is("GLUE stays", x.of(0, 8), glue);
      }
      due.is("an empty order", emptied(x).glue(0, 0), 99);
      due.is("an empty order", x.glue(0, 1), 0);
    }
    HeldTillSet x = held("50", 0, 2, 2);
    Due.bytes(x, 0, 0, 0, 1);
    due.is("the order ends where one came before: it is whole", x.glue(0, 0), 99);
    Due.bytes(x, 0, 0, 2, 1);
    due.is("or is none", x.glue(0, 1), 0);
    x.mend(0, 1, 3);
    due.is("the first does not go in", x.glue(0, 0), NOT);
    due.is("the first does not go in", x.glue(0, 1), NOT);
  }

  private static HeldTillSet emptied(HeldTillSet x) {
    x.row(0, 0, 0);
    return x;
  }

  private static void worth() {
    due.promise(15);
    due.says("WORTH of one CLAMP more (what 0), of one of the MEN more (1; also beyond what they may be). VOID: BAD, too");
    for (int what : new int[] {MIN, -1, 2, MAX}) {
      due.is("worth(" + what + ")", loose(1).worth(what), VOID);
    }
    for (int what = 0; what <= 1; what++) {
      due.is("no joints", new HeldTillSet().worth(what), 0);
      due.is("nothing is sooner", loose(1, 1).worth(what), 0);
      HeldTillSet x = held("9", 2, 2, 2);
      x.mend(0, 3, 1);
      x.mend(1, 3, 1);
      due.is("by so many minutes", x.worth(what), 9);
      x.mend(0, 1, 3);
      due.is("VOID: it can't be done now", x.worth(what), VOID);
      due.is("CLAMPS stay", x.of(0, 7), 0);
      due.is("MEN stay", x.of(0, 6), 0);
    }
    HeldTillSet x = held("50", 0, 2, 2, 2, 2, 2);
    x.mend(4, 1, 2);
    x.mend(0, 6, 3);
    due.is("a fourth of the MEN: the fifth need not wait", x.worth(1), 50 - 3);
    x.mend(0, 7, 6);
    due.is("a seventh clamp holds nothing more", x.worth(0), 0);
    HeldTillSet y = held("k=0?5;n=1?9;1", 2, 1, 0);
    y.mend(1, 4, 1);
    due.is("one of the MEN", y.worth(1), 5);
    due.is("no clamp may hold it", y.worth(0), 0);
    y.mend(0, 3, 1);
    due.is("a clamp may", y.worth(0), 5);
  }

  private static void inWay() {
    due.promise(16);
    due.says("which JOINTS (bits), each left out of an ORDER, let more of the others go in than go in ahead of where it ended");
    for (int behind = 0; behind <= 3; behind++) {
      HeldTillSet x = loose(1, 1, 1, 1, 1);
      x.mend(1, 5, 1);
      Due.law(x, "0");
      upward(x, 0, 2 + behind);
      int ways = behind == 0 ? 0 : 3;
      due.is("0 is fast when 1 comes, " + behind + " behind them", x.inWay(0), ways);
      x.mend(1, 5, 0);
      due.is("all go in", x.inWay(0), 0);
      x.mend(0, 1, 3);
      due.is("0 never goes in", x.inWay(0), 1);
    }
    HeldTillSet x = loose(1, 1);
    Due.bytes(x, 0, 0);
    x.mend(0, 4, 2);
    due.is("none is left", x.inWay(0), 0);
    due.is("an empty order", emptied(x).inWay(0), 0);
    HeldTillSet y = loose(1, 1, 1, 1, 1, 1, 1);
    y.mend(6, 1, 3);
    Due.bytes(y, 0, 6, 5, 4, 3, 2, 1, 0);
    due.is("the seventh, ahead of all", y.inWay(0), 64);
    Due.bytes(y, 0, 0, 1, 2, 3, 4, 5, 6);
    due.is("the seventh, behind all", y.inWay(0), 0);
  }

  private static void dry() {
    due.promise(17);
    due.says("how many JOINTS go in at most by any ORDER, if nothing ever SETS (all is held on)");
    due.is("no joints", new HeldTillSet().dry(), 0);
    for (String law : new String[] {"0", "1", "99"}) {
      for (int men = 0; men <= 3; men++) {
        HeldTillSet x = held(law, 0, 1, 1, 1, 1, 1, 1, 1);
        x.mend(0, 6, men);
        due.is("a hand holds each", x.dry(), Math.min(7, 2 + 2 * men));
      }
      for (int clamps = 0; clamps <= 6; clamps++) {
        HeldTillSet x = held(law, 0, 1, 1, 1, 1, 1, 1, 1);
        for (int j = 0; j < 7; j++) {
          x.mend(j, 3, 1);
        }
        x.mend(0, 7, clamps);
        due.is("clamps and two hands", x.dry(), Math.min(7, clamps + 2));
      }
      HeldTillSet x = held(law, 0, 1, 1, 0);
      due.is("what is not held", x.dry(), 3);
      x.mend(2, 1, 1);
      due.is("fitted ahead of those that are held", x.dry(), 3);
      x.mend(2, 4, 3);
      due.is("no hand is free behind them", x.dry(), 2);
      x.mend(2, 1, 0);
      x.mend(2, 5, 3);
      due.is("nothing has set", x.dry(), 3);
      x.mend(0, 1, 3);
      due.is("the first never, nor what needs it", x.dry(), 1);
    }
  }

  private static void atOnceSets() {
    due.promise(18);
    due.says("AT ONCE: 1, 0 (set 0 on), the greatest set (-1). BAD");
    for (int size = 0; size <= 7; size++) {
      HeldTillSet x = loose(new int[] {1, 1, 1, 1, 1, 1, 1}, size);
      int all = (1 << size) - 1;
      due.is("none of " + size, x.atOnce(0), 1);
      due.is("all of " + size, x.atOnce(all), 1);
      due.is("the greatest", x.atOnce(-1), all);
      for (int set : new int[] {MIN, -2, all + 1, 128, 255, MAX}) {
        due.is("a set " + set + " of " + size, x.atOnce(set), BAD);
      }
    }
    due.says("NEEDS of each without the others");
    HeldTillSet x = loose(1, 1, 1);
    x.mend(2, 4, 1);
    int[] wants = {1, 1, 1, 1, 0, 0, 0, 0};
    for (int set = 0; set <= 7; set++) {
      due.is("atOnce(" + set + ")", x.atOnce(set), wants[set]);
    }
    due.is("the greatest", x.atOnce(-1), 3);
    x.mend(0, 4, 64);
    x.mend(1, 4, 1);
    due.is("none", x.atOnce(-1), 0);
    due.is("none", x.atOnce(0), 1);
  }

  private static void atOnceHands() {
    due.promise(18);
    due.says("HANDS of all together no more than all hands");
    int[][] hands = {{1, 1, 1}, {2, 2, 1}, {3, 3, 1}, {3, 3, 3}};
    int[] least = {3, 3, 3, 3};
    for (int men = 0; men <= 3; men++) {
      HeldTillSet x = loose(1, 1, 1);
      x.mend(0, 6, men);
      for (int j = 0; j < 3; j++) {
        x.mend(j, 1, hands[men][j]);
      }
      due.is("one too many, with " + men, x.atOnce(7), 0);
      due.is("of like ones the least bits", x.atOnce(-1), least[men]);
      x.mend(2, 1, hands[men][2] - 1);
      due.is("all hands, with " + men, x.atOnce(7), 1);
      due.is("the greatest", x.atOnce(-1), 7);
    }
    due.says("most JOINTS; of like ones the least bits");
    HeldTillSet x = loose(1, 1, 1, 1);
    x.mend(0, 1, 2);
    x.mend(1, 1, 1);
    x.mend(2, 1, 1);
    x.mend(3, 1, 1);
    due.is("two of one hand, not one of two", x.atOnce(-1), 6);
    x.mend(1, 1, 2);
    due.is("two of one hand", x.atOnce(-1), 12);
    x.mend(2, 1, 2);
    due.is("one alone, of like ones", x.atOnce(-1), 1);
    x.mend(3, 1, 0);
    due.is("and one of none", x.atOnce(-1), 9);
  }

  private static void wrong() {
    due.promise(19);
    due.says("WRONG (ki: 10 k and i; i no less than k): DONE. NOT: not as many go in");
    HeldTillSet x = loose(1, 2, 3);
    upward(x, 0, 3);
    int[] right = {0, 1, 2, 11, 12, 22};
    // The i-th is fitted in 1, 3, 6; sawing takes 2 minutes each; then all from the k-th on, and 10 minutes to set.
    int[] wants = {1 + 2 + 6 + 10, 3 + 4 + 6 + 10, 6 + 6 + 6 + 10, 3 + 2 + 5 + 10, 6 + 4 + 5 + 10, 6 + 2 + 3 + 10};
    for (int i = 0; i < right.length; i++) {
      due.is("wrong(0, " + right[i] + ")", x.wrong(0, right[i]), wants[i]);
    }
    for (int ki = -20; ki <= 120; ki++) {
      int k = ki / 10;
      int i = ki % 10;
      if (ki < 0 || i < k) {
        due.is("wrong(0, " + ki + ")", x.wrong(0, ki), BAD);
      } else if (i >= 3) {
        due.is("wrong(0, " + ki + ")", x.wrong(0, ki), NOT);
      }
    }
    for (int ki : new int[] {MIN, MIN + 1, MAX - 1, MAX}) {
      due.is("wrong(0, " + ki + ")", x.wrong(0, ki), BAD);
      due.is("bad is ahead of -11", x.wrong(3, ki), BAD);
    }
    due.is("an empty order", emptied(x).wrong(0, 0), NOT);
    HeldTillSet y = loose(1, 1, 1, 1, 1, 1, 1);
    upward(y, 0, 7);
    due.is("the last of seven", y.wrong(0, 66), 7 + 2 + 1 + 10);
    due.is("all seven", y.wrong(0, 6), 7 + 14 + 7 + 10);
    due.is("an eighth", y.wrong(0, 67), NOT);
    due.is("an eighth alone", y.wrong(0, 77), NOT);
  }

  private static void wrongHolds() {
    due.promise(19);
    due.says("NOT: not as many go in, or not whole anew");
    HeldTillSet x = loose(1, 1, 1);
    x.mend(2, 4, 64);
    upward(x, 0, 3);
    due.is("two go in, but anew it is not whole", x.wrong(0, 11), NOT);
    due.is("the third never was in", x.wrong(0, 12), NOT);
    Due.bytes(x, 0, 0, 1);
    due.is("an order of two is whole", x.wrong(0, 11), 2 + 2 + 1 + 10);
    due.says("those ahead as they were");
    HeldTillSet y = loose(1, 1);
    Due.law(y, "k=0?40;1");
    upward(y, 0, 2);
    due.is("the first sets as at first, behind all", y.wrong(0, 11), 41);
    due.is("sawn apart it sets later", y.wrong(0, 0), 3 + 1 + 40);
    for (int set = 2; set <= 5; set++) {
      y = loose(1, 1);
      y.mend(1, 5, 1);
      Due.law(y, "k=0?" + set + ";1");
      upward(y, 0, 2);
      due.is("sprung anew in minute 4, the first has set in " + (1 + set), y.wrong(0, 11), 1 + set <= 4 ? NOT : Math.max(1 + set, 6));
    }
    HeldTillSet z = held("k=0?9;1", 0, 2, 0);
    z.mend(1, 1, 1);
    due.is("begun when the hands are free: 10, anew 13 at once", z.wrong(0, 11), 15);
    z.mend(1, 1, 0);
    due.is("no hand is wanted: 2, anew 4; the first sets in 10", z.wrong(0, 11), 10);
  }

  private static void roundOf1To5() {
    due.promise(20);
    due.says("n chairs (1 .. 5) alike");
    HeldTillSet x = loose(2, 1);
    upward(x, 0, 2);
    for (int n : new int[] {MIN, -1, 0, 6, 7, MAX}) {
      due.is("round(0, " + n + ")", x.round(0, n), BAD);
      due.is("bad is ahead of -11", x.round(4, n), BAD);
    }
    for (int n = 1; n <= 5; n++) {
      due.is("round(0, " + n + ")", x.round(0, n), 3 * n + 10);
      due.is("chairs of nothing", emptied(loose(1)).round(0, n), 0);
    }
    x = loose(9, 9, 9, 9, 9, 9, 9);
    upward(x, 0, 7);
    Due.law(x, "99");
    due.is("five of seven each, the longest", x.round(0, 5), 5 * 63 + 99);
  }

  private static void roundHolds() {
    due.promise(20);
    due.says("hands that still hold, clamps too, stay with those ahead; NOT: one does not go in whole");
    for (int men = 0; men <= 3; men++) {
      HeldTillSet x = held("50", 0, 2);
      x.mend(0, 6, men);
      for (int n = 1; n <= 5; n++) {
        due.is(n + " chairs, two hands each, " + men + " men", x.round(0, n), n <= men + 1 ? n + 50 : NOT);
      }
      x.mend(0, 3, 1);
      for (int clamps = 0; clamps <= 6; clamps++) {
        x.mend(0, 7, clamps);
        due.is("five chairs, with " + clamps + " clamps", x.round(0, 5), 5 <= men + 1 + clamps ? 55 : NOT);
      }
    }
    for (int set = 1; set <= 3; set++) {
      HeldTillSet x = held(String.valueOf(set), 0, 2);
      due.is("the one ahead sets in " + (1 + set) + ", the next is fitted in 2", x.round(0, 2), set <= 1 ? 2 + set : NOT);
    }
    HeldTillSet x = held("9", 1, 2);
    due.is("waits till the hands are free", x.round(0, 3), 30);
  }
}
