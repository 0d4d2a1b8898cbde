import java.util.function.Supplier;

/**
 * "What is answered so changes nothing": beside each object that refused a call stands another one, made alike, that
 * was not asked, and all other calls tell the same of both. Of several answers the one named first is due.
 */
public final class RefusalsTest {
  private static final int BAD = -1, NOT = -2, FULL = -3, STATE = -5, VOID = -2000000000;
  private static final int MIN = Integer.MIN_VALUE, MAX = Integer.MAX_VALUE;
  private static final Due due = new Due("RefusalsTest");

  private interface Call {
    long on(HeldTillSet x);
  }

  public static void main(String[] args) {
    joint();
    joints();
    mendAndOf();
    feed();
    lawWithAFault();
    sets();
    ordersThatAreNone();
    ordersAskedAmiss();
    searchesAskedAmiss();
    ordersThatDoNotGoIn();
    dripsThatAreNone();
    fit();
    fitThatWillNotGoIn();
    stayAndTest();
    backUndoRedo();
    body();
    actThatIsNone();
    keepAndRow();
    putAndElement();
    shift();
    taken();
    whatIsLed();
    thoughtChangesNothing();
    objectsApart();
    theLastCall();
    due.end();
  }

  /** A bench on which all is under way: a law, a tape, changes undone, deeds, an image, bodies, each kind of shelf. */
  private static HeldTillSet used() {
    HeldTillSet x = new HeldTillSet();
    int[][] joints = {{2, 2}, {3, 1}, {1, 1}, {4, 2}, {1, 0}};
    for (int[] j : joints) {
      x.joint(j[0], j[1]);
    }
    int[][] mended = {{2, 4, 3}, {3, 5, 4}, {1, 2, 2}, {0, 7, 1}, {0, 10, 4}, {0, 8, 12}, {4, 3, 0}};
    for (int[] m : mended) {
      x.mend(m[0], m[1], m[2]);
    }
    x.undo();
    x.undo();
    Due.law(x, "20-g+f");
    x.feed('7');
    x.feed('+');
    x.body(5);
    x.body(3);
    x.body(0);
    x.act(0, 3, 4);
    Due.bytes(x, 0, 0, 1, 4, 2, 3);
    Due.shorts(x, 1, 0, 14, 1, 18);
    x.keep(2, 1);
    Due.row(x, 4, 3, 7, Long.MAX_VALUE, -1);
    Due.row(x, 5, 4, 1, 0);
    x.fit(0);
    x.stay(3);
    x.image();
    x.fit(1);
    x.stay(2);
    return x;
  }

  /** Seven joints, a full tape, fifty bodies: nothing more comes. */
  private static HeldTillSet full() {
    HeldTillSet x = new HeldTillSet();
    for (int j = 0; j < 7; j++) {
      x.joint(1 + j, j % 3);
    }
    for (int i = 0; i < 120; i++) {
      x.feed(i % 2 == 0 ? '1' : '+');
    }
    for (int i = 0; i < 50; i++) {
      x.body(i % 8);
    }
    x.row(0, 0, 3);
    for (int i = 0; i < 3; i++) {
      x.put(0, i, 1);
    }
    return x;
  }

  /** Nothing was ever told. */
  private static HeldTillSet bare() {
    return new HeldTillSet();
  }

  /** One joint, in minute 9990. */
  private static HeldTillSet late() {
    HeldTillSet x = new HeldTillSet();
    x.joint(1, 1);
    for (int i = 0; i < 10; i++) {
      x.stay(999);
    }
    x.fit(0);
    return x;
  }

  private static void refused(Supplier<HeldTillSet> made, String name, long want, Call call, String... but) {
    HeldTillSet x = made.get();
    due.is(name, call.on(x), want);
    Told.alike(due, name, Told.of(x), Told.of(made.get()), but);
  }

  private static void refused(String name, long want, Call call) {
    refused(RefusalsTest::used, name, want, call);
  }

  private static void joint() {
    due.promise(2);
    for (int fits : new int[] {MIN, -1, 0, 10, MAX}) {
      refused("joint(" + fits + ", 2)", BAD, x -> x.joint(fits, 2));
      refused(RefusalsTest::full, "bad is ahead of FULL: joint(" + fits + ", 2)", BAD, x -> x.joint(fits, 2));
    }
    for (int hands : new int[] {MIN, -1, 4, MAX}) {
      refused("joint(1, " + hands + ")", BAD, x -> x.joint(1, hands));
      refused(RefusalsTest::full, "bad is ahead of FULL: joint(1, " + hands + ")", BAD, x -> x.joint(1, hands));
    }
    refused(RefusalsTest::full, "joint(1, 0)", FULL, x -> x.joint(1, 0));
    refused(RefusalsTest::full, "joint(9, 3)", FULL, x -> x.joint(9, 3));
  }

  private static void joints() {
    due.promise(3);
    for (int shelf : new int[] {MIN, -1, 6, MAX}) {
      refused("joints(" + shelf + ", 0, 1)", BAD, x -> x.joints(shelf, 0, 1));
    }
    for (int n : new int[] {MIN, -1, 0, 8, MAX}) {
      for (int shelf = 0; shelf <= 5; shelf++) {
        int s = shelf;
        refused("joints(" + s + ", 0, " + n + ")", BAD, x -> x.joints(s, 0, n));
      }
    }
    for (int shelf : new int[] {1, 2, 4, 5}) {
      for (int i : new int[] {MIN, -1, 0, MAX}) {
        refused("joints(" + shelf + ", " + i + ", 1)", -12, x -> x.joints(shelf, i, 1));
      }
    }
    for (int i : new int[] {MIN, -1, 0, 2, 3, 4, 5, 6, MAX}) {
      refused("none may be: joints(0, " + i + ", 7)", 0, x -> x.joints(0, i, 7));
      refused("nothing is there: joints(3, " + i + ", 7)", 0, x -> x.joints(3, i, 7));
      refused(RefusalsTest::full, "full: joints(0, " + i + ", 7)", 0, x -> x.joints(0, i, 7));
    }
  }

  private static void mendAndOf() {
    int[] least = {1, 0, 0, 0, 0, 0, 0, 0, 0, 0, 0};
    int[] most = {9, 3, 2, 1, 127, 127, 3, 6, 99, 30, 12};
    for (int what = -1; what <= 13; what++) {
      int w = what;
      for (int number : new int[] {MIN, -1, 0, 1, 4, 5, 7, MAX}) {
        boolean told = what >= 0 && what <= 5 && number >= 0 && number < 5 || what >= 6 && what <= 10 && number == 0;
        due.promise(4);
        int low = told ? least[what] : 0;
        int high = told ? most[what] : 1;
        for (int v : new int[] {MIN, low - 1, high + 1, MAX}) {
          refused("mend(" + number + ", " + w + ", " + v + ")", BAD, x -> x.mend(number, w, v));
        }
        if (!told) {
          refused("mend(" + number + ", " + w + ", 1)", BAD, x -> x.mend(number, w, 1));
        } else if (what == 4 || what == 5) {
          refused("its own: mend(" + number + ", " + w + ", ..)", BAD, x -> x.mend(number, w, 1 << number));
          refused("with its own: mend(" + number + ", " + w + ", 127)", BAD, x -> x.mend(number, w, 127));
        }
        due.promise(5);
        if (!told && !(number == 0 && (what == 11 || what == 12))) {
          refused("of(" + number + ", " + w + ")", BAD, x -> x.of(number, w));
        }
      }
    }
  }

  private static void feed() {
    due.promise(6);
    for (int letter : new int[] {MIN, -1, 256, MAX}) {
      refused("feed(" + letter + ")", BAD, x -> x.feed(letter));
      refused(RefusalsTest::full, "bad is ahead of FULL: feed(" + letter + ")", BAD, x -> x.feed(letter));
    }
    for (int letter : new int[] {0, '1', 255}) {
      refused(RefusalsTest::full, "feed(" + letter + ")", FULL, x -> x.feed(letter));
    }
  }

  private static void lawWithAFault() {
    due.promise(7);
    String[] tape = {"count(1)", "law()", "sets(0) by the tape"};
    refused(RefusalsTest::used, "a tape that ends too early", -102, HeldTillSet::law, tape);
    refused(RefusalsTest::full, "a full tape that ends too early", -220, HeldTillSet::law, tape);
    refused(RefusalsTest::bare, "an empty tape", -100, HeldTillSet::law);
  }

  private static void sets() {
    due.promise(8);
    for (int kn : new int[] {MIN, -10, -1, 8, 9, 18, 19, 48, 49, 50, 57, 70, 79, 80, MAX}) {
      refused("sets(" + kn + ")", BAD, x -> x.sets(kn));
    }
    refused(RefusalsTest::bare, "sets(0)", BAD, x -> x.sets(0));
  }

  private static long ofAnOrder(HeldTillSet x, int promise, int shelf, int what) {
    switch (promise) {
      case 9: return x.order(shelf, 0, what);
      case 10: return x.done(shelf, what);
      case 14: return x.glue(shelf, what);
      case 16: return x.inWay(shelf);
      case 19: return x.wrong(shelf, what);
      case 20: return x.round(shelf, what + 1);
      case 24: return x.byHand(shelf, what);
      default: return x.drawn(shelf, 1, 1, what);
    }
  }

  private static void ordersThatAreNone() {
    int[] wants = {-12, -12, -11, -12, -12};
    for (int promise : new int[] {9, 10, 14, 16, 19, 20, 24, 25}) {
      due.promise(promise);
      for (int shelf : new int[] {MIN, -1, 6, MAX}) {
        refused("shelf " + shelf, BAD, x -> ofAnOrder(x, promise, shelf, 0));
      }
      for (int shelf = 1; shelf <= 5; shelf++) {
        int s = shelf;
        refused("shelf " + s, wants[s - 1], x -> ofAnOrder(x, promise, s, 0));
      }
    }
  }

  private static void ordersAskedAmiss() {
    for (int shelf = 0; shelf <= 3; shelf++) {
      int s = shelf;
      String of = "of shelf " + s;
      for (int what : new int[] {MIN, -1, 2, 3, MAX}) {
        for (int promise : new int[] {9, 10, 14, 24, 25}) {
          due.promise(promise);
          if (promise != 9 || what != 2) {
            refused(of + ", what " + what, BAD, x -> ofAnOrder(x, promise, s, what));
          }
        }
      }
      due.promise(9);
      refused(of + ", the least k", BAD, x -> x.order(s, MIN, 0));
      refused(of + ", k -1", BAD, x -> x.order(s, -1, 0));
      due.promise(19);
      for (int ki : new int[] {MIN, -10, -1, 10, 20, 21, 43, 98, 100, 120, MAX}) {
        refused(of + ", ki " + ki, BAD, x -> x.wrong(s, ki));
      }
      due.promise(20);
      for (int n : new int[] {MIN, -1, 0, 6, MAX}) {
        refused(of + ", n " + n, BAD, x -> x.round(s, n));
      }
      due.promise(25);
      for (int n : new int[] {MIN, -1, 0, 31, MAX}) {
        refused(of + ", n " + n, BAD, x -> x.drawn(s, 1, n, 0));
        refused(of + ", n " + n, BAD, x -> x.drawn(s, 1, n, 1));
      }
    }
  }

  private static void searchesAskedAmiss() {
    for (int what : new int[] {MIN, -1, 2, MAX}) {
      due.promise(11);
      refused("can(" + what + ")", BAD, x -> x.can(what));
      due.promise(13);
      refused("need(5, " + what + ")", BAD, x -> x.need(5, what));
      due.promise(15);
      refused("worth(" + what + ")", VOID, x -> x.worth(what));
    }
    due.promise(12);
    refused("soonest(-2)", BAD, x -> x.soonest(-2));
    refused("soonest(" + MIN + ")", BAD, x -> x.soonest(MIN));
    due.promise(13);
    for (int m : new int[] {MIN, -1, 1000, MAX}) {
      refused("need(" + m + ", 0)", BAD, x -> x.need(m, 0));
      refused("need(" + m + ", 1)", BAD, x -> x.need(m, 1));
    }
    due.promise(18);
    for (int set : new int[] {MIN, -2, 32, 127, 128, MAX}) {
      refused("atOnce(" + set + ")", BAD, x -> x.atOnce(set));
    }
  }

  /** Joint 0 wants more hands than there are: no order of all goes in. */
  private static HeldTillSet stuck() {
    HeldTillSet x = used();
    x.mend(0, 1, 3);
    return x;
  }

  private static void ordersThatDoNotGoIn() {
    due.promise(9);
    for (int what = 0; what <= 2; what++) {
      int w = what;
      refused("order(0, 5, " + w + ")", NOT, x -> x.order(0, 5, w));
      refused(RefusalsTest::stuck, "order(0, 0, " + w + ")", NOT, x -> x.order(0, 0, w));
    }
    due.promise(12);
    refused("soonest(5)", NOT, x -> x.soonest(5));
    for (int k = -1; k <= 5; k++) {
      int at = k;
      refused(RefusalsTest::stuck, "soonest(" + at + ")", NOT, x -> x.soonest(at));
    }
    for (int what = 0; what <= 1; what++) {
      int w = what;
      due.promise(13);
      refused("need(0, " + w + ")", NOT, x -> x.need(0, w));
      due.promise(14);
      refused(RefusalsTest::stuck, "glue(0, " + w + ")", NOT, x -> x.glue(0, w));
      due.promise(15);
      refused(RefusalsTest::stuck, "worth(" + w + ")", VOID, x -> x.worth(w));
    }
    due.promise(19);
    refused("wrong(0, 5)", NOT, x -> x.wrong(0, 5));
    refused(RefusalsTest::stuck, "wrong(0, 0)", NOT, x -> x.wrong(0, 0));
    due.promise(20);
    for (int n = 1; n <= 5; n++) {
      int many = n;
      refused(RefusalsTest::stuck, "round(0, " + many + ")", NOT, x -> x.round(0, many));
    }
  }

  /** Drips that lack a minute. */
  private static HeldTillSet lacking() {
    HeldTillSet x = used();
    Due.shorts(x, 1, 0, 14, 1);
    return x;
  }

  private static void dripsThatAreNone() {
    for (int od : new int[] {MIN, -11, -10, -1, 6, 9, 16, 59, 60, 61, 100, MAX}) {
      due.promise(21);
      refused("judge(" + od + ")", BAD, x -> x.judge(od));
      due.promise(23);
      refused("who(" + od + ")", BAD, x -> x.who(od));
    }
    int[] ods = {3, 13, 23, 33, 31, 43, 0, 2, 4, 5, 11, 21, 41, 51, 10, 20};
    for (int i = 0; i < ods.length; i++) {
      int od = ods[i];
      int want = i < 6 ? -11 : -12;
      due.promise(21);
      refused("judge(" + od + ")", want, x -> x.judge(od));
      due.promise(23);
      refused("who(" + od + ")", want, x -> x.who(od));
    }
    due.promise(21);
    refused("all is so: judge(1)", NOT, x -> x.judge(1));
    due.promise(23);
    refused(RefusalsTest::lacking, "never so: who(1)", NOT, x -> x.who(1));
    due.promise(22);
    for (int shelf : new int[] {MIN, -1, 6, MAX}) {
      refused("which(" + shelf + ", 0)", BAD, x -> x.which(shelf, 0));
    }
    int[] wants = {-12, BAD, -12, -11, -12, -12};
    for (int shelf = 0; shelf <= 5; shelf++) {
      int s = shelf;
      for (int what : new int[] {MIN, -1, 2, MAX}) {
        refused("which(" + s + ", " + what + ")", BAD, x -> x.which(s, what));
      }
      if (s != 1) {
        refused("which(" + s + ", 0)", wants[s], x -> x.which(s, 0));
        refused("which(" + s + ", 1)", wants[s], x -> x.which(s, 1));
      }
    }
    refused(RefusalsTest::stuck, "none is so: which(1, 1)", NOT, x -> x.which(1, 1));
  }

  private static void fit() {
    due.promise(26);
    for (int joint : new int[] {MIN, -1, 5, 7, MAX}) {
      refused("fit(" + joint + ")", BAD, x -> x.fit(joint));
    }
    refused("fit(0)", STATE, x -> x.fit(0));
    refused("fit(1)", STATE, x -> x.fit(1));
    refused(RefusalsTest::stuck, "STATE is ahead of NOT: fit(0)", STATE, x -> x.fit(0));
    refused(RefusalsTest::bare, "fit(0)", BAD, x -> x.fit(0));
  }

  /** On a new chair of the used bench: joint 2 needs others, joint 0 wants too many hands. */
  private static HeldTillSet stuckInDeed() {
    HeldTillSet x = stuck();
    x.chair();
    return x;
  }

  private static void fitThatWillNotGoIn() {
    due.promise(26);
    for (int joint : new int[] {0, 2}) {
      due.is("how many are led", counted(joint), 1);
      refused(RefusalsTest::stuckInDeed, "fit(" + joint + ")", NOT, x -> x.fit(joint), "led(1)");
    }
  }

  private static int counted(int joint) {
    HeldTillSet x = stuckInDeed();
    int before = x.led(1);
    x.fit(joint);
    return x.led(1) - before;
  }

  private static void stayAndTest() {
    due.promise(27);
    for (int n : new int[] {MIN, -1, 0, 1000, MAX}) {
      refused("stay(" + n + ")", BAD, x -> x.stay(n));
      refused(RefusalsTest::late, "bad is ahead of STATE: stay(" + n + ")", BAD, x -> x.stay(n));
    }
    for (int n : new int[] {9, 10, 999}) {
      refused(RefusalsTest::late, "stay(" + n + ")", STATE, x -> x.stay(n));
    }
    due.promise(28);
    for (int joint : new int[] {MIN, -1, 5, 7, MAX}) {
      refused("test(" + joint + ")", BAD, x -> x.test(joint));
    }
    for (int joint = 2; joint <= 4; joint++) {
      int j = joint;
      refused("test(" + j + ")", STATE, x -> x.test(j));
    }
  }

  private static void backUndoRedo() {
    due.promise(32);
    refused(RefusalsTest::bare, "back()", STATE, HeldTillSet::back);
    refused(RefusalsTest::late, "back()", STATE, HeldTillSet::back);
    due.promise(33);
    refused(RefusalsTest::bare, "undo()", STATE, HeldTillSet::undo);
    refused(RefusalsTest::late, "undo()", STATE, HeldTillSet::undo);
    due.promise(34);
    refused(RefusalsTest::bare, "redo()", STATE, HeldTillSet::redo);
    refused(RefusalsTest::stuck, "redo() behind another change", STATE, HeldTillSet::redo);
    due.promise(33);
    refused(RefusalsTest::allUndone, "undo(), all undone", STATE, HeldTillSet::undo);
  }

  private static HeldTillSet allUndone() {
    HeldTillSet x = used();
    for (int i = 0; i < 5; i++) {
      x.undo();
    }
    return x;
  }

  private static void body() {
    due.promise(35);
    for (int kind : new int[] {MIN, -1, 8, MAX}) {
      refused("body(" + kind + ")", BAD, x -> x.body(kind));
      refused(RefusalsTest::full, "bad is ahead of FULL: body(" + kind + ")", BAD, x -> x.body(kind));
    }
    for (int kind = 0; kind <= 7; kind++) {
      int k = kind;
      refused(RefusalsTest::full, "body(" + k + ")", FULL, x -> x.body(k));
    }
  }

  private static void actThatIsNone() {
    due.promise(36);
    String[] trace = new String[26];
    for (int i = 0; i < 25; i++) {
      trace[i] = "trace(" + i + ")";
    }
    trace[25] = "count(4)";
    int[][] none = {{-1, 0}, {3, 0}, {MIN, 1}, {MAX, 2}, {0, -1}, {0, 4}, {2, MIN}, {2, MAX}};
    for (int[] n : none) {
      refused(RefusalsTest::used, "act(" + n[0] + ", " + n[1] + ", 7)", 0, x -> x.act(n[0], n[1], 7), trace);
    }
    refused(RefusalsTest::bare, "act(0, 0, 7)", 0, x -> x.act(0, 0, 7));
    due.promise(37);
    for (int i : new int[] {MIN, -1, 10, 24, MAX}) {
      refused("trace(" + i + ")", BAD, x -> x.trace(i));
    }
  }

  private static void keepAndRow() {
    for (int shelf : new int[] {MIN, -1, 6, MAX}) {
      due.promise(38);
      refused("keep(" + shelf + ", 0)", BAD, x -> x.keep(shelf, 0));
      refused("keep(" + shelf + ", -1)", BAD, x -> x.keep(shelf, -1));
      due.promise(39);
      refused("row(" + shelf + ", 0, 1)", BAD, x -> x.row(shelf, 0, 1));
      refused("row(" + shelf + ", 0, -1)", BAD, x -> x.row(shelf, 0, -1));
    }
    for (int shelf = 0; shelf <= 5; shelf++) {
      int s = shelf;
      due.promise(38);
      for (int body : new int[] {MIN, -2, 3, 50, MAX}) {
        refused("keep(" + s + ", " + body + ")", BAD, x -> x.keep(s, body));
      }
      due.promise(39);
      for (int sort : new int[] {MIN, -1, 5, MAX}) {
        refused("row(" + s + ", " + sort + ", 1)", BAD, x -> x.row(s, sort, 1));
        refused("row(" + s + ", " + sort + ", -1)", BAD, x -> x.row(s, sort, -1));
      }
      for (int n : new int[] {MIN, -1, 61, MAX}) {
        refused("row(" + s + ", 0, " + n + ")", n < 0 ? -14 : BAD, x -> x.row(s, 0, n));
        refused("row(" + s + ", 4, " + n + ")", n < 0 ? -14 : BAD, x -> x.row(s, 4, n));
      }
    }
  }

  private static void putAndElement() {
    int[] lengths = {5, 4, 0, 0, 3, 2};
    int[] wants = {-13, -13, -12, -11, -13, -13};
    for (int shelf = -1; shelf <= 6; shelf++) {
      int s = shelf;
      boolean there = s >= 0 && s <= 5;
      for (int i : new int[] {MIN, -1, there ? lengths[s] : 0, 60, MAX}) {
        int want = there ? wants[s] : BAD;
        due.promise(40);
        refused("put(" + s + ", " + i + ", 9)", want, x -> x.put(s, i, 9));
        due.promise(41);
        refused("element(" + s + ", " + i + ")", Long.MIN_VALUE, x -> x.element(s, i));
      }
    }
  }

  private static void shift() {
    due.promise(42);
    int[][] calls = {{-1, 0, 0, 0, 1, BAD}, {0, 0, 6, 0, 1, BAD}, {3, 0, 6, 0, 1, BAD}, {MIN, 0, MAX, 0, 1, BAD},
      {3, 0, 0, 0, 1, -11}, {0, 0, 3, 0, 1, -11}, {2, 0, 3, 0, 1, -11}, {3, 0, 3, 0, -1, -11}, {3, 9, 1, 9, 9, -11},
      {2, 0, 0, 0, 1, -12}, {0, 0, 2, 0, 1, -12}, {2, 0, 2, 0, 1, -12}, {0, 0, 1, 0, 1, -12}, {4, 0, 5, 0, -1, -12},
      {0, 0, 1, 9, 9, -12}, {0, 0, 0, 1, -1, -13}, {0, 0, 0, 1, MIN, -13}, {0, -1, 0, 1, 1, -13}, {0, 0, 0, -1, 1, -13},
      {0, 5, 0, 0, 1, -13}, {0, 0, 0, 5, 1, -13}, {0, 0, 0, 1, 5, -13}, {0, 1, 0, 0, 5, -13}, {0, 0, 0, 0, 6, -13},
      {0, 6, 0, 0, 0, -13}, {0, 0, 0, 6, 0, -13}, {0, MAX, 0, 0, MAX, -13}, {0, 0, 0, MAX, MAX, -13}, {0, 0, 0, 0, MAX, -13},
      {4, 2, 4, 0, 2, -13}, {5, 0, 5, 1, 2, -13}};
    for (int[] c : calls) {
      String name = "shift(" + c[0] + ", " + c[1] + ", " + c[2] + ", " + c[3] + ", " + c[4] + ")";
      refused(name, c[5], x -> x.shift(c[0], c[1], c[2], c[3], c[4]));
    }
    refused("none at all", 0, x -> x.shift(0, 5, 0, 0, 0));
    refused("all onto themselves", 5, x -> x.shift(0, 0, 0, 0, 5));
  }

  private static void taken() {
    due.promise(43);
    int[] wants = {-12, -12, 3, -11, -12, -12};
    for (int shelf = -1; shelf <= 6; shelf++) {
      int s = shelf;
      for (int k : new int[] {MIN, -1, 8, MAX}) {
        refused("taken(" + s + ", " + k + ")", BAD, x -> x.taken(s, k));
      }
      refused("taken(" + s + ", 0)", s < 0 || s > 5 ? BAD : wants[s], x -> x.taken(s, 0));
    }
    for (int k : new int[] {1, 4, 5, 6, 7}) {
      refused("not under: taken(2, " + k + ")", -12, x -> x.taken(2, k));
    }
  }

  private static void whatIsLed() {
    for (int what : new int[] {MIN, -1, 5, MAX}) {
      due.promise(30);
      refused("led(" + what + ")", BAD, x -> x.led(what));
      due.promise(44);
      refused("count(" + what + ")", BAD, x -> x.count(what));
    }
  }

  /** Calls that answer, and are no deeds: all is as it was behind each. */
  private static void thoughtChangesNothing() {
    Call[] calls = {x -> x.sets(0), x -> x.order(0, 1, 1), x -> x.done(0, 1), x -> x.can(1), x -> x.soonest(-1),
      x -> x.soonest(1), x -> x.need(99, 0), x -> x.need(99, 1), x -> x.glue(0, 0), x -> x.glue(0, 1), x -> x.worth(0),
      x -> x.worth(1), x -> x.inWay(0), x -> x.dry(), x -> x.atOnce(-1), x -> x.atOnce(3), x -> x.wrong(0, 1),
      x -> x.round(0, 3), x -> x.judge(1), x -> x.which(1, 0), x -> x.which(1, 1), x -> x.who(1), x -> x.byHand(0, 0),
      x -> x.byHand(0, 1), x -> x.drawn(0, 5, 30, 0), x -> x.drawn(0, 5, 30, 1), x -> x.test(0), x -> x.led(2),
      x -> x.of(0, 11), x -> x.of(0, 12), x -> x.of(1, 2), x -> x.mend(1, 2, x.of(1, 2)), x -> x.trace(2),
      x -> x.element(0, 1), x -> x.taken(2, 0), x -> x.count(2)};
    int[] promises = {8, 9, 10, 11, 12, 12, 13, 13, 14, 14, 15, 15, 16, 17, 18, 18, 19, 20, 21, 22, 22, 23, 24, 24, 25, 25, 28, 30,
      5, 5, 5, 4, 37, 41, 43, 44};
    for (int i = 0; i < calls.length; i++) {
      due.promise(promises[i]);
      HeldTillSet x = used();
      long first = calls[i].on(x);
      due.is("thought " + i + " again", calls[i].on(x), first);
      Told.alike(due, "thought " + i, Told.of(x), Told.of(used()));
    }
  }

  private static void objectsApart() {
    due.promise(1);
    due.says("All memory is the class's own");
    HeldTillSet first = bare();
    HeldTillSet second = used();
    HeldTillSet third = full();
    Told.alike(due, "others were used since", Told.of(first), Told.of(bare()));
    Told.alike(due, "another was filled since", Told.of(second), Told.of(used()));
    Told.alike(due, "two were asked since", Told.of(third), Told.of(full()));
  }

  private static void theLastCall() {
    due.promise(1);
    due.says("An object is used for at most 512 calls");
    HeldTillSet x = new HeldTillSet();
    for (int i = 1; i <= 509; i++) {
      due.is("call " + i, x.mend(0, 8, i % 2), i == 1 ? 10 : 1 - i % 2);
    }
    due.is("call 510", x.joint(2, 2), 0);
    due.is("call 511", x.fit(0), 2);
    due.is("call 512", x.led(4), 2);
  }
}
