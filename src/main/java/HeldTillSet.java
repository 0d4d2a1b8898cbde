import java.util.Arrays;

/** A chair in pieces: joints that are fitted one after the other and held till their glue has set. */
public final class HeldTillSet {
    public static final int BAD = -1, NOT = -2, FULL = -3, STATE = -5, VOID = -2000000000;

    private static final int NOTHING_THERE = -11, OTHER_KIND = -12, NO_PLACE = -13, SIZE_BELOW_0 = -14;
    private static final int MOST_JOINTS = 7, SHELVES = 6, MOST_CELLS = 60;
    private static final int MOST_CHAIRS = 5, MOST_DRAWN = 30, LAST_MINUTE = 9999;
    private static final int BYTES = 0, SHORTS = 1, INTS = 2, LONGS = 3, BOOLEANS = 4;

    /** A minute that never comes: far above every minute that a run of calls can reach. */
    private static final int NEVER = 1000000;

    private final Bench bench;
    private final Log log;
    private final Law glueLaw;
    private final Shop shop;
    private final Work work;
    private final Search search;
    private final Deed deed;
    private final Deed kept;
    private final Acts acts;
    private final Shelf[] shelves;
    private final int[] plan;
    private int planSize;
    private boolean imaged;

    public HeldTillSet() {
        bench = new Bench();
        log = new Log();
        glueLaw = new Law(bench);
        shop = new Shop(bench, glueLaw);
        work = new Work(shop, MOST_JOINTS * MOST_CHAIRS);
        search = new Search(work);
        deed = new Deed(shop);
        kept = new Deed(shop);
        acts = new Acts();
        shelves = new Shelf[SHELVES];
        for (int i = 0; i < SHELVES; i++) {
            shelves[i] = new Shelf();
        }
        plan = new int[MOST_JOINTS];
    }

    // ---- joints

    public int joint(int fits, int hands) {
        if (!bench.mayBe(0, Bench.FITS, fits) || !bench.mayBe(0, Bench.HANDS, hands)) {
            return BAD;
        }
        return bench.add(fits, hands, 1);
    }

    public int joints(int shelf, int i, int n) {
        if (!isShelf(shelf) || n < 1 || n > MOST_JOINTS) {
            return BAD;
        }
        int lack = shelves[shelf].lackOfRow(BYTES);
        if (lack == OTHER_KIND) {
            return OTHER_KIND;
        }
        if (lack != 0 || i < 0) {
            return 0;
        }
        int came = 0;
        while (came < n && jointFromRow(shelves[shelf], (long) i + 3 * came)) {
            came++;
        }
        return came;
    }

    /** The place is a long, since the first place may be any int. */
    private boolean jointFromRow(Shelf row, long place) {
        if (place + 3 > row.length) {
            return false;
        }
        int at = (int) place;
        int fits = (int) row.cells[at];
        int hands = (int) row.cells[at + 1];
        int held = (int) row.cells[at + 2];
        if (!bench.mayBe(0, Bench.FITS, fits) || !bench.mayBe(0, Bench.HANDS, hands)
                || !bench.mayBe(0, Bench.HELD, held)) {
            return false;
        }
        return bench.add(fits, hands, held) >= 0;
    }

    public int mend(int number, int what, int v) {
        int place = bench.placeOf(number, what);
        if (place < 0 || !bench.mayBe(number, what, v)) {
            return BAD;
        }
        int old = bench.read(place);
        if (old != v) {
            bench.write(place, v);
            log.add(place, old, v);
        }
        return old;
    }

    public int of(int number, int what) {
        if (number == 0 && what == 11) {
            return deed.work.now;
        }
        if (number == 0 && what == 12) {
            return deed.work.bits;
        }
        int place = bench.placeOf(number, what);
        return place < 0 ? BAD : bench.read(place);
    }

    public int feed(int letter) {
        if (letter < 0 || letter > 255) {
            return BAD;
        }
        return glueLaw.add(letter) ? glueLaw.tapeSize : FULL;
    }

    public int law() {
        int fault = glueLaw.take();
        return fault < 0 ? 1 : -100 - fault;
    }

    public int sets(int kn) {
        if (kn < 0 || kn / 10 >= bench.size || kn % 10 > MOST_JOINTS) {
            return BAD;
        }
        return glueLaw.minutes(kn / 10, kn % 10, bench.standing(Bench.GLUE));
    }

    // ---- orders in thought

    public int order(int shelf, int k, int what) {
        if (k < 0 || what < 0 || what > 2) {
            return BAD;
        }
        int lack = readPlan(shelf);
        if (lack != 0) {
            return lack;
        }
        shop.open();
        if (k >= tryPlan()) {
            return NOT;
        }
        return what == 0 ? work.begun[k] : what == 1 ? work.fitted[k] : work.set[k];
    }

    public int done(int shelf, int what) {
        if (!isZeroOrOne(what)) {
            return BAD;
        }
        int lack = readPlan(shelf);
        if (lack != 0) {
            return lack;
        }
        shop.open();
        int in = tryPlan();
        return what == 0 ? in : work.latest();
    }

    public int can(int what) {
        if (!isZeroOrOne(what)) {
            return BAD;
        }
        shop.open();
        search.allFree();
        search.go(what == 0 ? Search.FIRST : Search.EACH, NEVER);
        return search.orders;
    }

    public int soonest(int k) {
        if (k < -1) {
            return BAD;
        }
        shop.open();
        int soonest = soonestDone();
        if (soonest == VOID || k >= bench.size) {
            return NOT;
        }
        return k < 0 ? soonest : search.found[k];
    }

    public int need(int m, int what) {
        if (m < 0 || m > 999 || !isZeroOrOne(what)) {
            return BAD;
        }
        int men = bench.standing(Bench.MEN);
        int clamps = bench.standing(Bench.CLAMPS);
        int most = what == 0 ? Bench.MOST_CLAMPS : Bench.MOST_MEN;
        shop.open();
        search.allFree();
        for (int some = 0; some <= most; some++) {
            shop.staff(what == 1 ? some : men, what == 0 ? some : clamps);
            search.go(Search.FIRST, m + 1);
            if (search.orders > 0) {
                return some;
            }
        }
        return NOT;
    }

    public int glue(int shelf, int what) {
        if (!isZeroOrOne(what)) {
            return BAD;
        }
        int lack = readPlan(shelf);
        if (lack != 0) {
            return lack;
        }
        shop.open();
        for (int step = 0; step <= Bench.MOST_GLUE; step++) {
            int quick = what == 0 ? Bench.MOST_GLUE - step : step;
            for (int p = 0; p < planSize; p++) {
                shop.learn(plan[p], p, quick);
            }
            if (tryPlan() == planSize) {
                return quick;
            }
        }
        return NOT;
    }

    public int worth(int what) {
        if (!isZeroOrOne(what)) {
            return VOID;
        }
        shop.open();
        int before = soonestDone();
        if (before == VOID) {
            return VOID;
        }
        shop.staff(bench.standing(Bench.MEN) + what, bench.standing(Bench.CLAMPS) + 1 - what);
        int then = soonestDone();
        return then == VOID ? VOID : before - then;
    }

    public int inWay(int shelf) {
        int lack = readPlan(shelf);
        if (lack != 0) {
            return lack;
        }
        shop.open();
        int in = tryPlan();
        int bits = 0;
        for (int p = 0; p < planSize; p++) {
            if (tryPlanWithout(p) > in) {
                bits |= 1 << plan[p];
            }
        }
        return bits;
    }

    public int dry() {
        shop.open();
        shop.neverSets = true;
        search.allFree();
        search.go(Search.DEEPEST, NEVER + 1);
        return search.deepest;
    }

    public int atOnce(int set) {
        int all = (1 << bench.size) - 1;
        if (set < -1 || set > all) {
            return BAD;
        }
        if (set >= 0) {
            return bench.goTogether(set) ? 1 : 0;
        }
        int greatest = 0;
        for (int some = 1; some <= all; some++) {
            if (Integer.bitCount(some) > Integer.bitCount(greatest) && bench.goTogether(some)) {
                greatest = some;
            }
        }
        return greatest;
    }

    public int wrong(int shelf, int ki) {
        int k = ki / 10;
        int i = ki % 10;
        if (ki < 0 || i < k) {
            return BAD;
        }
        int lack = readPlan(shelf);
        if (lack != 0) {
            return lack;
        }
        shop.open();
        if (i >= tryPlan()) {
            return NOT;
        }
        int sawn = work.fitted[i] + 2 * (i - k + 1);
        work.cutTo(k);
        work.now = sawn;
        return goOnFrom(k) ? work.latest() : NOT;
    }

    public int round(int shelf, int n) {
        if (n < 1 || n > MOST_CHAIRS) {
            return BAD;
        }
        int lack = readPlan(shelf);
        if (lack != 0) {
            return lack;
        }
        shop.open();
        work.clear(0);
        for (int chair = 0; chair < n; chair++) {
            work.nextChair();
            if (!goOnFrom(0)) {
                return NOT;
            }
        }
        return work.latest();
    }

    // ---- drips, draws

    public int judge(int od) {
        int lack = readPlanAndDrips(od);
        if (lack != 0) {
            return lack;
        }
        shop.open();
        tryPlan();
        return work.firstNotSo(shelves[od % 10]);
    }

    public int which(int shelf, int what) {
        if (!isShelf(shelf) || !isZeroOrOne(what)) {
            return BAD;
        }
        int lack = shelves[shelf].lackOfRow(SHORTS);
        if (lack != 0) {
            return lack;
        }
        shop.open();
        if (search.bindTo(shelves[shelf])) {
            search.go(what == 0 ? Search.EACH : Search.FIRST, NEVER);
        }
        if (what == 0) {
            return search.orders;
        }
        return search.orders > 0 ? search.foundAsDigits() : NOT;
    }

    public int who(int od) {
        int lack = readPlanAndDrips(od);
        if (lack != 0) {
            return lack;
        }
        int clamps = bench.standing(Bench.CLAMPS);
        shop.open();
        for (int men = 0; men <= Bench.MOST_MEN; men++) {
            shop.staff(men, clamps);
            tryPlan();
            if (work.firstNotSo(shelves[od % 10]) == NOT) {
                return men;
            }
        }
        return NOT;
    }

    public int byHand(int shelf, int what) {
        if (!isZeroOrOne(what)) {
            return BAD;
        }
        int lack = readPlan(shelf);
        if (lack != 0) {
            return lack;
        }
        shop.open();
        tryPlan();
        return what == 0 ? work.heldByHands() : work.clampsAtOnce();
    }

    public int drawn(int shelf, int seed, int n, int what) {
        if (n < 1 || n > MOST_DRAWN || !isZeroOrOne(what)) {
            return BAD;
        }
        int lack = readPlan(shelf);
        if (lack != 0) {
            return lack;
        }
        shop.open();
        int z = seed;
        int together = 0;
        int whole = 0;
        for (int chair = 0; chair < n; chair++) {
            z = drawChair(z);
            together += work.latest();
            whole += work.size == planSize ? 1 : 0;
        }
        return what == 0 ? together : whole;
    }

    // ---- in deed

    public int fit(int joint) {
        if (!isJoint(joint)) {
            return BAD;
        }
        if (deed.work.hasFitted(joint)) {
            return STATE;
        }
        shop.open();
        if (!deed.work.join(joint)) {
            deed.refused++;
            return NOT;
        }
        deed.fitted++;
        return deed.work.now;
    }

    public int stay(int n) {
        if (n < 1 || n > 999) {
            return BAD;
        }
        if (deed.work.now + n > LAST_MINUTE) {
            return STATE;
        }
        deed.work.now += n;
        deed.waited += n;
        return deed.work.now;
    }

    public int test(int joint) {
        if (!isJoint(joint)) {
            return BAD;
        }
        if (!deed.work.hasFitted(joint)) {
            return STATE;
        }
        return deed.work.setOf(joint) <= deed.work.now ? 1 : 0;
    }

    public int chair() {
        int fitted = deed.work.size;
        deed.work.clear(deed.work.now);
        deed.chairs++;
        return fitted;
    }

    public int led(int what) {
        switch (what) {
            case 0: return deed.fitted;
            case 1: return deed.refused;
            case 2: return deed.waited;
            case 3: return deed.chairs;
            case 4: return deed.work.now;
            default: return BAD;
        }
    }

    public int image() {
        kept.copyFrom(deed);
        imaged = true;
        return deed.work.now;
    }

    public int back() {
        if (!imaged) {
            return STATE;
        }
        deed.copyFrom(kept);
        return deed.work.now;
    }

    public int undo() {
        return log.takeBack(bench) ? log.undoable : STATE;
    }

    public int redo() {
        return log.doAgain(bench) ? log.redoable : STATE;
    }

    // ---- acts, shelves

    public int body(int kind) {
        if (!Acts.isKind(kind)) {
            return BAD;
        }
        return acts.add(kind) ? acts.size - 1 : FULL;
    }

    public int act(int body, int act, int x) {
        return acts.start(body, act, x);
    }

    public int trace(int i) {
        return i < 0 || i >= acts.keptOfTrace() ? BAD : acts.ran[i];
    }

    public int keep(int shelf, int body) {
        if (!isShelf(shelf) || body < -1 || body >= acts.size) {
            return BAD;
        }
        if (body < 0) {
            shelves[shelf].holdNothing();
        } else {
            shelves[shelf].holdBody(body);
        }
        return 1;
    }

    public int row(int shelf, int sort, int n) {
        if (!isShelf(shelf) || sort < BYTES || sort > BOOLEANS || n > MOST_CELLS) {
            return BAD;
        }
        if (n < 0) {
            return SIZE_BELOW_0;
        }
        shelves[shelf].holdRow(sort, n);
        return 1;
    }

    public int put(int shelf, int i, long v) {
        int lack = lackOfPlace(shelf, i);
        if (lack != 0) {
            return lack;
        }
        shelves[shelf].write(i, v);
        return 1;
    }

    public long element(int shelf, int i) {
        return lackOfPlace(shelf, i) != 0 ? Long.MIN_VALUE : shelves[shelf].cells[i];
    }

    public int shift(int shelf, int i, int other, int j, int n) {
        if (!isShelf(shelf) || !isShelf(other)) {
            return BAD;
        }
        Shelf from = shelves[shelf];
        Shelf to = shelves[other];
        if (from.holds == Shelf.NOTHING || to.holds == Shelf.NOTHING) {
            return NOTHING_THERE;
        }
        if (from.holds != Shelf.ROW || to.holds != Shelf.ROW || from.sort != to.sort) {
            return OTHER_KIND;
        }
        if (!from.hasPlaces(i, n) || !to.hasPlaces(j, n)) {
            return NO_PLACE;
        }
        System.arraycopy(from.cells, i, to.cells, j, n);
        return n;
    }

    public int taken(int shelf, int k) {
        if (!isShelf(shelf) || !Acts.isKind(k)) {
            return BAD;
        }
        Shelf held = shelves[shelf];
        if (held.holds == Shelf.NOTHING) {
            return NOTHING_THERE;
        }
        if (held.holds != Shelf.BODY) {
            return OTHER_KIND;
        }
        int kind = acts.kindOf(held.bodyNumber);
        return Acts.isUnder(kind, k) ? kind : OTHER_KIND;
    }

    public int count(int what) {
        switch (what) {
            case 0: return bench.size;
            case 1: return glueLaw.tapeSize;
            case 2: return log.undoable;
            case 3: return acts.size;
            case 4: return acts.ranSize;
            default: return BAD;
        }
    }

    // ---- what several calls use

    private static boolean isShelf(int shelf) {
        return shelf >= 0 && shelf < SHELVES;
    }

    private static boolean isZeroOrOne(int what) {
        return what == 0 || what == 1;
    }

    private boolean isJoint(int joint) {
        return joint >= 0 && joint < bench.size;
    }

    private int lackOfPlace(int shelf, int i) {
        if (!isShelf(shelf)) {
            return BAD;
        }
        Shelf held = shelves[shelf];
        if (held.holds == Shelf.NOTHING) {
            return NOTHING_THERE;
        }
        if (held.holds != Shelf.ROW) {
            return OTHER_KIND;
        }
        return i < 0 || i >= held.length ? NO_PLACE : 0;
    }

    /** Reads the order on a shelf into the plan: 0, or why there is none. */
    private int readPlan(int shelf) {
        if (!isShelf(shelf)) {
            return BAD;
        }
        Shelf held = shelves[shelf];
        int lack = held.lackOfRow(BYTES);
        if (lack != 0) {
            return lack;
        }
        planSize = 0;
        int seen = 0;
        for (int i = 0; i < held.length && planSize < MOST_JOINTS; i++) {
            int joint = (int) held.cells[i];
            if (!isJoint(joint) || (seen >> joint & 1) == 1) {
                break;
            }
            seen |= 1 << joint;
            plan[planSize] = joint;
            planSize++;
        }
        return 0;
    }

    private int readPlanAndDrips(int od) {
        if (od < 0 || !isShelf(od / 10) || !isShelf(od % 10)) {
            return BAD;
        }
        int lackOfOrder = shelves[od / 10].lackOfRow(BYTES);
        int lackOfDrips = shelves[od % 10].lackOfRow(SHORTS);
        if (lackOfOrder == NOTHING_THERE || lackOfDrips == NOTHING_THERE) {
            return NOTHING_THERE;
        }
        if (lackOfOrder != 0 || lackOfDrips != 0) {
            return OTHER_KIND;
        }
        return readPlan(od / 10);
    }

    /** Fits the plan from minute 0 on, by what the shop was opened with: how many go in. */
    private int tryPlan() {
        work.clear(0);
        goOnFrom(0);
        return work.size;
    }

    private boolean goOnFrom(int first) {
        for (int p = first; p < planSize; p++) {
            if (!work.join(plan[p])) {
                return false;
            }
        }
        return true;
    }

    private int tryPlanWithout(int left) {
        work.clear(0);
        for (int p = 0; p < planSize; p++) {
            if (p != left && !work.join(plan[p])) {
                break;
            }
        }
        return work.size;
    }

    /** The minute of the soonest order of all, by what the shop was opened with; VOID: none goes in. */
    private int soonestDone() {
        search.allFree();
        search.go(Search.BEST, NEVER);
        return search.orders > 0 ? search.foundDone : VOID;
    }

    /** One chair by draws; a joint that is not begun draws none. */
    private int drawChair(int seed) {
        int z = seed;
        work.clear(0);
        for (int p = 0; p < planSize; p++) {
            int start = work.beginning(plan[p]);
            if (start < 0) {
                break;
            }
            z = z * 1103515245 + 12345;
            int minutes = bench.numberOf(plan[p], Bench.FITS);
            if ((z >>> 8) % 12 < bench.standing(Bench.SLIPS)) {
                minutes *= 2;
            }
            if (!work.fasten(plan[p], start, minutes)) {
                break;
            }
        }
        return z;
    }

    /** All numbers that can be mended: six of each joint, then those that stand once. */
    static final class Bench {
        static final int FITS = 0, HANDS = 1, HELD = 2, CLAMPED = 3, NEEDS = 4, SPRUNG = 5;
        static final int MEN = 6, CLAMPS = 7, GLUE = 8, WARM = 9, SLIPS = 10;
        static final int MOST_MEN = 3, MOST_CLAMPS = 6, MOST_GLUE = 99;
        private static final int OWN_HANDS = 2;
        private static final int EACH = 6;
        private static final int[] LEAST = {1, 0, 0, 0, 0, 0, 0, 0, 0, 0, 0};
        private static final int[] GREATEST = {9, 3, 2, 1, 127, 127, MOST_MEN, MOST_CLAMPS, MOST_GLUE, 30, 12};

        private final int[] numbers = new int[MOST_JOINTS * EACH + SLIPS - MEN + 1];
        int size;

        Bench() {
            numbers[MOST_JOINTS * EACH + GLUE - MEN] = 10;
            numbers[MOST_JOINTS * EACH + WARM - MEN] = 20;
        }

        /** Where a number stands, or -1 where there is no such one. */
        int placeOf(int number, int what) {
            if (what >= FITS && what <= SPRUNG) {
                return number >= 0 && number < size ? number * EACH + what : -1;
            }
            return what >= MEN && what <= SLIPS && number == 0 ? MOST_JOINTS * EACH + what - MEN : -1;
        }

        boolean mayBe(int number, int what, int v) {
            if (what < FITS || what > SLIPS || v < LEAST[what] || v > GREATEST[what]) {
                return false;
            }
            return what != NEEDS && what != SPRUNG || (v >> number & 1) == 0;
        }

        int read(int place) {
            return place >= 0 && place < numbers.length ? numbers[place] : 0;
        }

        void write(int place, int v) {
            if (place >= 0 && place < numbers.length) {
                numbers[place] = v;
            }
        }

        int numberOf(int joint, int what) {
            int place = joint * EACH + what;
            return place >= 0 && place < MOST_JOINTS * EACH ? numbers[place] : 0;
        }

        int standing(int what) {
            return what >= MEN && what <= SLIPS ? numbers[MOST_JOINTS * EACH + what - MEN] : 0;
        }

        /** The number of the new joint, or FULL. */
        int add(int fits, int hands, int held) {
            if (size >= MOST_JOINTS) {
                return FULL;
            }
            int first = size * EACH;
            numbers[first + FITS] = fits;
            numbers[first + HANDS] = hands;
            numbers[first + HELD] = held;
            numbers[first + CLAMPED] = 1;
            size++;
            return size - 1;
        }

        static int handsWith(int men) {
            return OWN_HANDS + 2 * men;
        }

        /** Whether all joints of a set can be begun in minute 0, in which nothing is fitted that one could need. */
        boolean goTogether(int set) {
            int hands = 0;
            for (int j = 0; j < size; j++) {
                if ((set >> j & 1) == 0) {
                    continue;
                }
                if (numberOf(j, NEEDS) != 0) {
                    return false;
                }
                hands += numberOf(j, HANDS);
            }
            return hands <= handsWith(standing(MEN));
        }
    }

    /** Changes, the undoable ones first, behind them those that can be done again, the next one first. */
    static final class Log {
        private static final int KEPT = 40;

        private final int[] places = new int[KEPT];
        private final int[] olds = new int[KEPT];
        private final int[] news = new int[KEPT];
        int undoable;
        int redoable;

        void add(int place, int old, int now) {
            if (undoable >= KEPT) {
                System.arraycopy(places, 1, places, 0, KEPT - 1);
                System.arraycopy(olds, 1, olds, 0, KEPT - 1);
                System.arraycopy(news, 1, news, 0, KEPT - 1);
                undoable = KEPT - 1;
            }
            places[undoable] = place;
            olds[undoable] = old;
            news[undoable] = now;
            undoable++;
            redoable = 0;
        }

        boolean takeBack(Bench bench) {
            if (undoable <= 0) {
                return false;
            }
            undoable--;
            redoable++;
            bench.write(places[undoable], olds[undoable]);
            return true;
        }

        boolean doAgain(Bench bench) {
            if (redoable <= 0 || undoable >= KEPT) {
                return false;
            }
            bench.write(places[undoable], news[undoable]);
            undoable++;
            redoable--;
            return true;
        }
    }

    /** The tape, and the law that it became: operands first, their operator behind them. */
    static final class Law {
        private static final int TAPE = 120, CODE = 256, STACK = 128, DIGITS = 4, OPEN = 6;
        private static final int LITERAL = 1000, NAME = 200, NEGATE = 'N';
        private static final int OR = 0, COMPARE = 2, OPERAND = 5;
        private static final String NAMES = "gwfhnk";

        private final Bench bench;
        private final int[] tape = new int[TAPE];
        private final int[] stack = new int[STACK];
        private final int[] named = new int[6];
        private int[] code = new int[CODE];
        private int[] draft = new int[CODE];
        private int codeSize;
        private int draftSize;
        private int at;
        private int fault;
        int tapeSize;

        Law(Bench bench) {
            this.bench = bench;
        }

        boolean add(int letter) {
            if (tapeSize >= TAPE) {
                return false;
            }
            tape[tapeSize] = letter;
            tapeSize++;
            return true;
        }

        /** The tape becomes the law, unless it has a fault: its place, or -1. The tape is empty then. */
        int take() {
            at = 0;
            fault = -1;
            draftSize = 0;
            readLine();
            for (int i = 0; i < TAPE && next() == ';'; i++) {
                at++;
                readLine();
            }
            if (at < tapeSize) {
                fail();
            }
            tapeSize = 0;
            if (fault < 0) {
                int[] spare = code;
                code = draft;
                draft = spare;
                codeSize = draftSize;
            }
            return fault;
        }

        /** The byte that comes next; -1 at the end, and behind a fault, so that all reading ends there. */
        private int next() {
            return fault < 0 && at < tapeSize ? tape[at] : -1;
        }

        private void fail() {
            if (fault < 0) {
                fault = at;
            }
        }

        private void emit(int word) {
            if (draftSize < CODE) {
                draft[draftSize] = word;
                draftSize++;
            }
        }

        /** A line with a condition: '?', and where the next line begins, stand behind the condition. */
        private void readLine() {
            readLevel(OR, 0);
            if (next() != '?') {
                emit(';');
                return;
            }
            at++;
            emit('?');
            int target = draftSize;
            emit(0);
            readLevel(OR, 0);
            emit(';');
            if (target < CODE) {
                draft[target] = draftSize;
            }
        }

        private void readLevel(int level, int open) {
            if (level >= OPERAND) {
                readOperand(open);
                return;
            }
            readLevel(level + 1, open);
            int most = level == COMPARE ? 1 : TAPE;
            for (int i = 0; i < most && levelOf(next()) == level; i++) {
                int operator = next();
                at++;
                readLevel(level + 1, open);
                emit(operator);
            }
        }

        private static int levelOf(int operator) {
            switch (operator) {
                case '|': return OR;
                case '&': return 1;
                case '<': case '=': case '>': return COMPARE;
                case '+': case '-': return 3;
                case '*': case '/': case '%': return 4;
                default: return -1;
            }
        }

        private void readOperand(int open) {
            int c = next();
            if (c >= '0' && c <= '9') {
                readNumber();
            } else if (c > 0 && NAMES.indexOf((char) c) >= 0) {
                at++;
                emit(NAME + NAMES.indexOf((char) c));
            } else if (open < OPEN && (c == '!' || c == '-')) {
                at++;
                readOperand(open + 1);
                emit(c == '!' ? '!' : NEGATE);
            } else if (open < OPEN && c == '(') {
                at++;
                readLevel(OR, open + 1);
                if (next() == ')') {
                    at++;
                } else {
                    fail();
                }
            } else {
                fail();
            }
        }

        private void readNumber() {
            int value = 0;
            for (int i = 0; i < DIGITS && next() >= '0' && next() <= '9'; i++) {
                value = value * 10 + next() - '0';
                at++;
            }
            emit(LITERAL + value);
        }

        /** How many minutes a joint takes to set, if so many are fitted by then. */
        int minutes(int joint, int fitted, int glue) {
            int warm = bench.standing(Bench.WARM);
            if (codeSize == 0) {
                return Math.max(1, 30 - glue - warm / 2);
            }
            named[0] = glue;
            named[1] = warm;
            named[2] = bench.numberOf(joint, Bench.FITS);
            named[3] = bench.numberOf(joint, Bench.HELD);
            named[4] = fitted;
            named[5] = joint;
            return Math.max(0, Math.min(99, workOut()));
        }

        private int workOut() {
            int top = 0;
            for (int i = 0; i < codeSize; i++) {
                int word = code[i];
                if (word >= NAME) {
                    if (top >= STACK) {
                        return 0;
                    }
                    stack[top] = valueOf(word);
                    top++;
                } else if (top < 1) {
                    return 0;
                } else if (word == ';') {
                    return stack[top - 1];
                } else if (word == '?') {
                    top--;
                    int target = i + 1 < codeSize ? code[i + 1] : codeSize;
                    i = stack[top] == 0 ? Math.max(i, target - 1) : i + 1;
                } else if (word == '!' || word == NEGATE) {
                    int value = stack[top - 1];
                    stack[top - 1] = word == NEGATE ? -value : truth(value == 0);
                } else if (top < 2) {
                    return 0;
                } else {
                    top--;
                    stack[top - 1] = join(word, stack[top - 1], stack[top]);
                }
            }
            return 0;
        }

        private int valueOf(int word) {
            if (word >= LITERAL) {
                return word - LITERAL;
            }
            int name = word - NAME;
            return name >= 0 && name < named.length ? named[name] : 0;
        }

        private static int truth(boolean is) {
            return is ? 1 : 0;
        }

        private static int join(int operator, int a, int b) {
            switch (operator) {
                case '|': return truth(a != 0 || b != 0);
                case '&': return truth(a != 0 && b != 0);
                case '<': return truth(a < b);
                case '=': return truth(a == b);
                case '>': return truth(a > b);
                case '+': return a + b;
                case '-': return a - b;
                case '*': return a * b;
                case '/': return b == 0 ? 0 : a / b;
                default: return b == 0 ? 0 : a % b;
            }
        }
    }

    /** By what an order is tried: hands, clamps, and how long each joint takes to set. */
    static final class Shop {
        private static final int PLACES = MOST_JOINTS + 1;

        final Bench bench;
        private final Law law;
        private final int[] minutes = new int[MOST_JOINTS * PLACES];
        int hands;
        int clamps;
        boolean neverSets;

        Shop(Bench bench, Law law) {
            this.bench = bench;
            this.law = law;
        }

        /** As the bench is now. */
        void open() {
            int glue = bench.standing(Bench.GLUE);
            for (int j = 0; j < bench.size; j++) {
                for (int fitted = 0; fitted < bench.size; fitted++) {
                    learn(j, fitted, glue);
                }
            }
            neverSets = false;
            staff(bench.standing(Bench.MEN), bench.standing(Bench.CLAMPS));
        }

        void staff(int menNow, int clampsNow) {
            hands = Bench.handsWith(menNow);
            clamps = clampsNow;
        }

        /** The law is worked out ahead of all trying, since a search asks for the same minutes thousands of times. */
        void learn(int joint, int fitted, int glue) {
            if (isKnown(joint, fitted)) {
                minutes[joint * PLACES + fitted] = law.minutes(joint, fitted, glue);
            }
        }

        int minutesOf(int joint, int fitted) {
            return isKnown(joint, fitted) ? minutes[joint * PLACES + fitted] : 0;
        }

        private static boolean isKnown(int joint, int fitted) {
            return joint >= 0 && joint < MOST_JOINTS && fitted >= 0 && fitted < PLACES;
        }
    }

    /** Joints as they were fitted, those of chairs ahead first, and what still holds them. */
    static final class Work {
        private final Shop shop;
        private final Bench bench;
        private final int room;
        final int[] joint;
        final int[] begun;
        final int[] fitted;
        final int[] set;
        private final int[] hands;
        private final int[] clamps;
        /** Where the joints of this chair begin. */
        private int first;
        int size;
        int bits;
        /** No joint is begun ahead of this minute. */
        int now;

        Work(Shop shop, int room) {
            this.shop = shop;
            this.bench = shop.bench;
            this.room = Math.max(0, room);
            joint = new int[this.room];
            begun = new int[this.room];
            fitted = new int[this.room];
            set = new int[this.room];
            hands = new int[this.room];
            clamps = new int[this.room];
        }

        void clear(int minute) {
            first = 0;
            size = 0;
            bits = 0;
            now = minute;
        }

        void nextChair() {
            first = size;
            bits = 0;
        }

        /** Only between two of the same room. */
        void copyFrom(Work other) {
            int some = Math.min(room, other.size);
            System.arraycopy(other.joint, 0, joint, 0, some);
            System.arraycopy(other.begun, 0, begun, 0, some);
            System.arraycopy(other.fitted, 0, fitted, 0, some);
            System.arraycopy(other.set, 0, set, 0, some);
            System.arraycopy(other.hands, 0, hands, 0, some);
            System.arraycopy(other.clamps, 0, clamps, 0, some);
            first = other.first;
            size = some;
            bits = other.bits;
            now = other.now;
        }

        boolean hasFitted(int j) {
            return (bits >> j & 1) == 1;
        }

        /** Fits the next joint, if it goes in. */
        boolean join(int j) {
            int start = beginning(j);
            return start >= 0 && fasten(j, start, bench.numberOf(j, Bench.FITS));
        }

        /** The minute in which a joint is begun; NOT: it is not begun. */
        int beginning(int j) {
            int wanted = bench.numberOf(j, Bench.HANDS);
            if ((bench.numberOf(j, Bench.NEEDS) & ~bits) != 0 || wanted > shop.hands) {
                return NOT;
            }
            int minute = now;
            for (int i = 0; i <= size && handsFree(minute) < wanted; i++) {
                minute = nextHandFree(minute);
                if (minute >= NEVER) {
                    return NOT;
                }
            }
            return isSprung(j, minute) ? NOT : minute;
        }

        /** Glues a joint that was begun, if it can be held. */
        boolean fasten(int j, int start, int minutes) {
            int ready = start + minutes;
            int till = shop.neverSets ? NEVER : ready + shop.minutesOf(j, size - first);
            int held = till > ready ? bench.numberOf(j, Bench.HELD) : 0;
            boolean byClamp = held > 0 && bench.numberOf(j, Bench.CLAMPED) == 1 && clampsUsed(ready) < shop.clamps;
            if (size >= room || !byClamp && held > 0 && handsFree(ready) < held) {
                return false;
            }
            joint[size] = j;
            begun[size] = start;
            fitted[size] = ready;
            set[size] = till;
            hands[size] = byClamp ? 0 : held;
            clamps[size] = byClamp ? 1 : 0;
            size++;
            bits |= 1 << j;
            now = ready;
            return true;
        }

        /** The last joint is as if it had not been fitted: for work that began in minute 0, on one chair. */
        void drop() {
            if (size > 0) {
                size--;
                bits &= ~(1 << joint[size]);
                now = size > 0 ? fitted[size - 1] : 0;
            }
        }

        void cutTo(int left) {
            for (int i = size; i > left; i--) {
                drop();
            }
        }

        private int handsFree(int minute) {
            int free = shop.hands;
            for (int i = 0; i < size; i++) {
                if (set[i] > minute) {
                    free -= hands[i];
                }
            }
            return free;
        }

        private int clampsUsed(int minute) {
            int used = 0;
            for (int i = 0; i < size; i++) {
                if (set[i] > minute) {
                    used += clamps[i];
                }
            }
            return used;
        }

        private int nextHandFree(int minute) {
            int next = NEVER;
            for (int i = 0; i < size; i++) {
                if (hands[i] > 0 && set[i] > minute) {
                    next = Math.min(next, set[i]);
                }
            }
            return next;
        }

        private boolean isSprung(int j, int minute) {
            int sprung = bench.numberOf(j, Bench.SPRUNG) & bits;
            if (sprung == 0) {
                return false;
            }
            for (int i = first; i < size; i++) {
                if ((sprung >> joint[i] & 1) == 1 && set[i] <= minute) {
                    return true;
                }
            }
            return false;
        }

        /** When all have set; 0 if there are none. */
        int latest() {
            int latest = 0;
            for (int i = 0; i < size; i++) {
                latest = Math.max(latest, set[i]);
            }
            return latest;
        }

        /** When a joint of this chair sets; NOT: it is not fitted. */
        int setOf(int j) {
            for (int i = first; i < size; i++) {
                if (joint[i] == j) {
                    return set[i];
                }
            }
            return NOT;
        }

        /** The first two of the drips that this work does not bear out; NOT: there is none. */
        int firstNotSo(Shelf drips) {
            for (int i = 0; i < drips.length; i += 2) {
                int minute = setOf((int) drips.cells[i]);
                if (minute < 0 || i + 1 >= drips.length || drips.cells[i + 1] != minute) {
                    return i / 2;
                }
            }
            return NOT;
        }

        int heldByHands() {
            int held = 0;
            for (int i = first; i < size; i++) {
                if (hands[i] > 0) {
                    held |= 1 << joint[i];
                }
            }
            return held;
        }

        /** A clamp is taken only when a joint is fitted, so the most are in use in one of those minutes. */
        int clampsAtOnce() {
            int most = 0;
            for (int i = 0; i < size; i++) {
                int used = 0;
                for (int k = 0; k <= i; k++) {
                    used += set[k] > fitted[i] ? clamps[k] : 0;
                }
                most = Math.max(most, used);
            }
            return most;
        }
    }

    /** Goes through the orders of all joints, first by numbers first. */
    static final class Search {
        static final int FIRST = 0, EACH = 1, BEST = 2, DEEPEST = 3;
        private static final int FREE = -100000;

        private final Work work;
        private final Bench bench;
        private final int[] due = new int[MOST_JOINTS];
        final int[] found = new int[MOST_JOINTS];
        private int aim;
        private int limit;
        private boolean ended;
        int orders;
        int foundDone;
        int deepest;

        Search(Work work) {
            this.work = work;
            this.bench = work.bench;
        }

        /** No joint has to set in a minute told. */
        void allFree() {
            orders = 0;
            Arrays.fill(due, FREE);
        }

        /** Joints have to set as drips tell; false: nothing is so. */
        boolean bindTo(Shelf drips) {
            allFree();
            for (int i = 0; i < drips.length; i += 2) {
                int j = (int) drips.cells[i];
                if (j < 0 || j >= bench.size || i + 1 >= drips.length) {
                    return false;
                }
                int minute = (int) drips.cells[i + 1];
                if (due[j] != FREE && due[j] != minute) {
                    return false;
                }
                due[j] = minute;
            }
            return true;
        }

        /** Only orders count that are done ahead of the limit. */
        void go(int newAim, int newLimit) {
            aim = newAim;
            limit = newLimit;
            ended = false;
            orders = 0;
            deepest = 0;
            work.clear(0);
            seek(0, leastMinutes());
        }

        /** What all joints take at least: their fitting, and the quickest setting of a last one. */
        private int leastMinutes() {
            int fitting = 0;
            int setting = NEVER;
            for (int j = 0; j < bench.size; j++) {
                fitting += bench.numberOf(j, Bench.FITS);
                setting = Math.min(setting, work.shop.minutesOf(j, bench.size - 1));
            }
            return fitting + setting;
        }

        /** With what is left at least, so that what can't be done ahead of the limit is given up early. */
        private void seek(int depth, int atLeast) {
            deepest = Math.max(deepest, depth);
            if (depth >= bench.size) {
                come();
                return;
            }
            for (int j = 0; j < bench.size && !ended; j++) {
                if (work.hasFitted(j) || !work.join(j)) {
                    continue;
                }
                int left = atLeast - bench.numberOf(j, Bench.FITS);
                if (isSo(j) && work.latest() < limit && work.now + left < limit) {
                    seek(depth + 1, left);
                }
                work.drop();
            }
        }

        private boolean isSo(int j) {
            return due[j] == FREE || due[j] == work.setOf(j);
        }

        /** An order of all went in. */
        private void come() {
            orders++;
            if (orders == 1 || aim == BEST) {
                foundDone = work.latest();
                System.arraycopy(work.joint, 0, found, 0, bench.size);
            }
            if (aim == BEST) {
                limit = foundDone;
            }
            ended = aim == FIRST || aim == DEEPEST;
        }

        int foundAsDigits() {
            int digits = 0;
            for (int i = 0; i < bench.size; i++) {
                digits = digits * 10 + found[i];
            }
            return digits;
        }
    }

    /** A chair that is glued in deed, and what is led of it. */
    static final class Deed {
        final Work work;
        int fitted;
        int refused;
        int waited;
        int chairs;

        Deed(Shop shop) {
            work = new Work(shop, MOST_JOINTS);
        }

        void copyFrom(Deed other) {
            work.copyFrom(other.work);
            fitted = other.fitted;
            refused = other.refused;
            waited = other.waited;
            chairs = other.chairs;
        }
    }

    /** Nothing, a body, or a row, whose cells serve every row that comes here. */
    static final class Shelf {
        static final int NOTHING = 0, BODY = 1, ROW = 2;

        int holds = NOTHING;
        int bodyNumber;
        int sort;
        int length;
        final long[] cells = new long[MOST_CELLS];

        void holdNothing() {
            holds = NOTHING;
        }

        void holdBody(int number) {
            holds = BODY;
            bodyNumber = number;
        }

        void holdRow(int newSort, int newLength) {
            holds = ROW;
            sort = newSort;
            length = newLength;
            Arrays.fill(cells, 0L);
        }

        /** 0, or why no row of a sort is here. */
        int lackOfRow(int wanted) {
            if (holds == NOTHING) {
                return NOTHING_THERE;
            }
            return holds == ROW && sort == wanted ? 0 : OTHER_KIND;
        }

        /** Written so that no sum of two ints can wrap. */
        boolean hasPlaces(int i, int n) {
            return i >= 0 && n >= 0 && n <= length && i <= length - n;
        }

        void write(int i, long v) {
            switch (sort) {
                case BYTES: cells[i] = (byte) v; break;
                case SHORTS: cells[i] = (short) v; break;
                case INTS: cells[i] = (int) v; break;
                case LONGS: cells[i] = v; break;
                default: cells[i] = v != 0 ? 1 : 0; break;
            }
        }
    }

    /** Bodies of kinds, their acts, and which bodies of acts ran. */
    static final class Acts {
        private static final int KINDS = 8, ACTS = 4, MOST = 50, TRACE = 24, DEEPEST = 40;
        private static final int FITS = 0, HOLDS = 1, SETS = 2;
        /** The kind above each kind. */
        private static final int[] ABOVE = {-1, 0, 0, 2, 1, 3, 0, 6};
        /** By kind, its body of each act; 0: it has none. What interfaces bring stands with the first kind. */
        private static final int[] BODIES = {
            1, 10, 11, 2,
            20, 0, 0, 0,
            0, 30, 0, 0,
            0, 41, 40, 0,
            0, 0, 0, 50,
            0, 0, 60, 61,
            70, 0, 0, 0,
            81, 80, 0, 0,
        };

        private final int[] kinds = new int[MOST];
        final int[] ran = new int[TRACE];
        private int self;
        private int own;
        int size;
        int ranSize;

        static boolean isKind(int kind) {
            return kind >= 0 && kind < KINDS;
        }

        static boolean isUnder(int kind, int upper) {
            int k = kind;
            for (int i = 0; i < KINDS && isKind(k); i++) {
                if (k == upper) {
                    return true;
                }
                k = ABOVE[k];
            }
            return false;
        }

        boolean add(int kind) {
            if (size >= MOST) {
                return false;
            }
            kinds[size] = kind;
            size++;
            return true;
        }

        /** -1: there is no such body. */
        int kindOf(int number) {
            return number >= 0 && number < size ? kinds[number] : -1;
        }

        int keptOfTrace() {
            return Math.min(ranSize, TRACE);
        }

        int start(int number, int a, int x) {
            ranSize = 0;
            int kind = kindOf(number);
            if (kind < 0 || a < 0 || a >= ACTS) {
                return 0;
            }
            self = number;
            own = kind;
            return run(own, a, x, 0);
        }

        /** The kind, from one upward, that has a body of the act; -1: none. */
        private static int holderOf(int kind, int a) {
            int k = kind;
            for (int i = 0; i < KINDS && isKind(k); i++) {
                if (BODIES[k * ACTS + a] != 0) {
                    return k;
                }
                k = ABOVE[k];
            }
            return -1;
        }

        private int run(int from, int a, int x, int depth) {
            int holder = holderOf(from, a);
            if (holder < 0 || depth > DEEPEST) {
                return 0;
            }
            int number = BODIES[holder * ACTS + a];
            if (ranSize < TRACE) {
                ran[ranSize] = number;
            }
            ranSize++;
            int above = ABOVE[holder];
            int deeper = depth + 1;
            switch (number) {
                case 1: return x + self;
                case 2: return run(own, HOLDS, x, deeper) - run(own, SETS, 1, deeper);
                case 10: return run(own, FITS, x, deeper) * 2;
                case 11: return x ^ self;
                case 20: return run(above, a, x, deeper) + 3;
                case 30: return -run(above, a, x, deeper);
                case 40: return run(above, a, x, deeper) * 3;
                case 41: return run(above, a, x + 1, deeper);
                case 50: return run(above, a, x, deeper) ^ 5;
                case 60: return run(above, a, x, deeper) - run(own, FITS, 2, deeper);
                case 61: return run(above, a, x, deeper) + 1;
                case 70: return run(above, a, x, deeper) * 2;
                case 80: return run(above, a, x, deeper) + run(own, SETS, 2, deeper);
                case 81: return run(above, a, x, deeper) - 1;
                default: return 0;
            }
        }
    }
}
