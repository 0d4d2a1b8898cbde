import java.util.ArrayList;
import java.util.List;
import java.util.Random;

/** Promises 7 to 26 beside a plain model: minute by minute, all orders written out, the law read as it stands. */
public final class ModelTest {
  private static final int NOT = -2, VOID = -2000000000, NEVER = 1 << 28;
  private static final Due due = new Due("ModelTest");

  /** The law of a text, worked out while it is read. */
  static final class Reader {
    final String text;
    final int[] names;
    int at;
    boolean fault;

    Reader(String text, int[] names) {
      this.text = text;
      this.names = names;
    }

    char next() {
      return at < text.length() && !fault ? text.charAt(at) : 0;
    }

    boolean takes(char c) {
      if (next() == c && c != 0) {
        at++;
        return true;
      }
      return false;
    }

    int lines() {
      boolean counted = false;
      int value = 0;
      do {
        int first = or(0);
        boolean counts = true;
        int line = first;
        if (takes('?')) {
          line = or(0);
          counts = first != 0;
        }
        if (counts && !counted) {
          counted = true;
          value = line;
        }
      } while (takes(';'));
      if (at < text.length()) {
        fault = true;
      }
      return value;
    }

    int or(int open) {
      int v = and(open);
      while (takes('|')) {
        int r = and(open);
        v = v != 0 | r != 0 ? 1 : 0;
      }
      return v;
    }

    int and(int open) {
      int v = compared(open);
      while (takes('&')) {
        int r = compared(open);
        v = v != 0 & r != 0 ? 1 : 0;
      }
      return v;
    }

    int compared(int open) {
      int v = sum(open);
      if (takes('<')) {
        return v < sum(open) ? 1 : 0;
      }
      if (takes('=')) {
        return v == sum(open) ? 1 : 0;
      }
      if (takes('>')) {
        return v > sum(open) ? 1 : 0;
      }
      return v;
    }

    int sum(int open) {
      int v = product(open);
      while (true) {
        if (takes('+')) {
          v += product(open);
        } else if (takes('-')) {
          v -= product(open);
        } else {
          return v;
        }
      }
    }

    int product(int open) {
      int v = operand(open);
      while (true) {
        if (takes('*')) {
          v *= operand(open);
        } else if (takes('/')) {
          int r = operand(open);
          v = r == 0 ? 0 : v / r;
        } else if (takes('%')) {
          int r = operand(open);
          v = r == 0 ? 0 : v % r;
        } else {
          return v;
        }
      }
    }

    int operand(int open) {
      char c = next();
      if (c >= '0' && c <= '9') {
        int v = 0;
        for (int digits = 0; digits < 4 && next() >= '0' && next() <= '9'; digits++) {
          v = v * 10 + next() - '0';
          at++;
        }
        return v;
      }
      int name = c == 0 ? -1 : "gwfhnk".indexOf(c);
      if (name >= 0) {
        at++;
        return names[name];
      }
      if (open < 6 && takes('!')) {
        return operand(open + 1) == 0 ? 1 : 0;
      }
      if (open < 6 && takes('-')) {
        return -operand(open + 1);
      }
      if (open < 6 && takes('(')) {
        int v = or(open + 1);
        if (takes(')')) {
          return v;
        }
      }
      fault = true;
      return 0;
    }
  }

  static final class Fitted {
    int joint, begun, fitted, set, hands, clamps;
  }

  /** The numbers of a bench, and orders tried on it minute by minute. */
  static final class Model {
    int size;
    int[][] of = new int[7][6];
    int men, clamps, glue = 10, warm = 20, slips;
    String law;

    int sets(int j, int n, int g) {
      if (law == null) {
        return Math.max(1, 30 - g - warm / 2);
      }
      int value = new Reader(law, new int[] {g, warm, of[j][0], of[j][2], n, j}).lines();
      return value < 0 ? 0 : Math.min(value, 99);
    }

    int handsHeld(List<Fitted> all, int minute) {
      int held = 0;
      for (Fitted f : all) {
        held += f.fitted <= minute && minute < f.set ? f.hands : 0;
      }
      return held;
    }

    int clampsHeld(List<Fitted> all, int minute) {
      int held = 0;
      for (Fitted f : all) {
        held += f.fitted <= minute && minute < f.set ? f.clamps : 0;
      }
      return held;
    }

    /** The minute in which a joint is begun, or NOT. */
    int begin(List<Fitted> all, List<Fitted> chair, int j, int now, boolean dry) {
      int hands = 2 + 2 * men;
      for (int other = 0; other < 7; other++) {
        boolean there = false;
        for (Fitted f : chair) {
          there |= f.joint == other;
        }
        if ((of[j][4] >> other & 1) == 1 && !there) {
          return NOT;
        }
      }
      if (of[j][1] > hands) {
        return NOT;
      }
      int minute = now;
      while (hands - handsHeld(all, minute) < of[j][1]) {
        minute++;
        if (dry) {
          return NOT;
        }
      }
      for (Fitted f : chair) {
        if ((of[j][5] >> f.joint & 1) == 1 && f.set <= minute) {
          return NOT;
        }
      }
      return minute;
    }

    boolean glueOn(List<Fitted> all, List<Fitted> chair, int j, int minute, int takes, boolean dry) {
      Fitted f = new Fitted();
      f.joint = j;
      f.begun = minute;
      f.fitted = minute + takes;
      f.set = dry ? NEVER : f.fitted + sets(j, chair.size(), glue);
      if (of[j][2] > 0 && f.set > f.fitted) {
        if (of[j][3] == 1 && clamps > clampsHeld(all, f.fitted)) {
          f.clamps = 1;
        } else if (2 + 2 * men - handsHeld(all, f.fitted) >= of[j][2]) {
          f.hands = of[j][2];
        } else {
          return false;
        }
      }
      all.add(f);
      chair.add(f);
      return true;
    }

    boolean add(List<Fitted> all, List<Fitted> chair, int j, int now, boolean dry) {
      int minute = begin(all, chair, j, now, dry);
      return minute >= 0 && glueOn(all, chair, j, minute, of[j][0], dry);
    }

    List<Fitted> order(int[] joints, boolean dry) {
      List<Fitted> all = new ArrayList<>();
      List<Fitted> chair = new ArrayList<>();
      int now = 0;
      for (int j : joints) {
        if (!add(all, chair, j, now, dry)) {
          break;
        }
        now = all.get(all.size() - 1).fitted;
      }
      return all;
    }

    static int done(List<Fitted> all) {
      int latest = 0;
      for (Fitted f : all) {
        latest = Math.max(latest, f.set);
      }
      return latest;
    }

    List<int[]> orders() {
      List<int[]> out = new ArrayList<>();
      extend(new int[0], out);
      return out;
    }

    void extend(int[] some, List<int[]> out) {
      if (some.length == size) {
        out.add(some);
        return;
      }
      for (int j = 0; j < size; j++) {
        boolean there = false;
        for (int s : some) {
          there |= s == j;
        }
        if (!there) {
          int[] more = java.util.Arrays.copyOf(some, some.length + 1);
          more[some.length] = j;
          extend(more, out);
        }
      }
    }

    int[] soonest() {
      int[] best = null;
      int least = NEVER;
      for (int[] o : orders()) {
        List<Fitted> all = order(o, false);
        if (all.size() == size && done(all) < least) {
          least = done(all);
          best = o;
        }
      }
      return best;
    }

    int soonestDone() {
      int[] best = soonest();
      return best == null ? NOT : done(order(best, false));
    }

    int judge(List<Fitted> all, short[] drips) {
      for (int two = 0; 2 * two < drips.length; two++) {
        boolean so = false;
        for (Fitted f : all) {
          so |= 2 * two + 1 < drips.length && f.joint == drips[2 * two] && f.set == drips[2 * two + 1];
        }
        if (!so) {
          return two;
        }
      }
      return NOT;
    }
  }

  private static Random random;
  private static HeldTillSet x;
  private static Model m;
  private static int[] plan;
  private static short[] drips;

  public static void main(String[] args) {
    for (int run = 0; run < 1500 && due.wrong() < 20; run++) {
      random = new Random(run);
      bench(random.nextInt(50) == 0 ? 7 : random.nextInt(6));
      ask(run);
      deeds();
    }
    for (int run = 0; run < 4000; run++) {
      random = new Random(run);
      laws();
    }
    due.end();
  }

  private static void number(int j, int what, int v) {
    if (x.mend(j, what, v) == -1) {
      return;
    }
    switch (what) {
      case 6: m.men = v; break;
      case 7: m.clamps = v; break;
      case 8: m.glue = v; break;
      case 9: m.warm = v; break;
      case 10: m.slips = v; break;
      default: m.of[j][what] = v; break;
    }
  }

  private static void bench(int size) {
    x = new HeldTillSet();
    m = new Model();
    for (int j = 0; j < size; j++) {
      m.of[j] = new int[] {1 + random.nextInt(9), random.nextInt(4), 1, 1, 0, 0};
      x.joint(m.of[j][0], m.of[j][1]);
    }
    m.size = size;
    for (int j = 0; j < size; j++) {
      number(j, 2, random.nextInt(3));
      number(j, 3, random.nextInt(2));
      if (random.nextInt(3) == 0) {
        number(j, 4, 1 << random.nextInt(size));
      }
      if (random.nextInt(3) == 0) {
        number(j, 5, random.nextInt(128) & random.nextInt(128));
      }
    }
    number(0, 6, random.nextInt(3) == 0 ? random.nextInt(4) : 1);
    number(0, 7, random.nextInt(4));
    number(0, 8, random.nextInt(30));
    number(0, 9, random.nextInt(31));
    number(0, 10, random.nextInt(13));
    String[] laws = {null, null, "f*3-n", "20-g+f*2+n", "n<2?9;0", "h*7", "k*5%11", "g>15?3;40-g", "n*4", "0", "99", "k%2"};
    String law = laws[random.nextInt(laws.length)];
    if (law != null) {
      Due.law(x, law);
      m.law = law;
    }
    plan();
  }

  private static void plan() {
    List<Integer> some = new ArrayList<>();
    for (int j = 0; j < m.size; j++) {
      some.add(random.nextInt(some.size() + 1), j);
    }
    int length = random.nextInt(3) == 0 ? random.nextInt(m.size + 1) : m.size;
    plan = new int[length];
    long[] row = new long[length + random.nextInt(3)];
    for (int i = 0; i < row.length; i++) {
      row[i] = i < length ? some.get(i) : i > 0 && random.nextBoolean() ? row[0] : -1;
      if (i < length) {
        plan[i] = some.get(i);
      }
    }
    Due.bytes(x, 0, row);
  }

  private static void drip() {
    List<int[]> orders = m.orders();
    List<Fitted> all = m.order(random.nextBoolean() ? plan : orders.get(random.nextInt(orders.size())), false);
    drips = new short[random.nextInt(6)];
    for (int i = 0; i < drips.length; i++) {
      Fitted f = all.isEmpty() ? new Fitted() : all.get(random.nextInt(all.size()));
      drips[i] = (short) f.joint;
      if (++i < drips.length) {
        drips[i] = (short) (random.nextInt(8) == 0 ? f.set + 1 : f.set);
      }
    }
    long[] row = new long[drips.length];
    for (int i = 0; i < row.length; i++) {
      row[i] = drips[i];
    }
    Due.shorts(x, 1, row);
  }

  private static void ask(int run) {
    due.promise(9);
    List<Fitted> all = m.order(plan, false);
    for (int k = 0; k <= all.size(); k++) {
      Fitted f = k < all.size() ? all.get(k) : null;
      due.is(run + " begun", x.order(0, k, 0), f == null ? NOT : f.begun);
      due.is(run + " fitted", x.order(0, k, 1), f == null ? NOT : f.fitted);
      due.is(run + " set", x.order(0, k, 2), f == null ? NOT : f.set);
    }
    due.promise(10);
    due.is(run + " in", x.done(0, 0), all.size());
    due.is(run + " done", x.done(0, 1), Model.done(all));
    searches(run);
    wholeOrder(run);
    wrongAndRound(run);
    dripsAndHands(run, all);
    drawn(run);
  }

  private static void searches(int run) {
    due.promise(11);
    int many = 0;
    int most = 0;
    for (int[] o : m.orders()) {
      many += m.order(o, false).size() == m.size ? 1 : 0;
      most = Math.max(most, m.order(o, true).size());
    }
    due.is(run + " can", x.can(0), many > 0 ? 1 : 0);
    due.is(run + " orders", x.can(1), many);
    due.promise(17);
    due.is(run + " dry", x.dry(), most);
    due.promise(12);
    int[] best = m.soonest();
    int done = m.soonestDone();
    due.is(run + " soonest", x.soonest(-1), done);
    for (int k = 0; k <= m.size; k++) {
      due.is(run + " soonest " + k, x.soonest(k), best == null || k >= m.size ? NOT : best[k]);
    }
    due.promise(13);
    int by = done > 0 && random.nextBoolean() ? Math.max(0, done - random.nextInt(8)) : random.nextInt(60);
    due.is(run + " clamps for " + by, x.need(by, 0), need(by, 0));
    due.is(run + " men for " + by, x.need(by, 1), need(by, 1));
    due.promise(15);
    m.clamps++;
    int then = m.soonestDone();
    due.is(run + " a clamp more", x.worth(0), done == NOT || then == NOT ? VOID : done - then);
    m.clamps--;
    m.men++;
    then = m.soonestDone();
    due.is(run + " a brother more", x.worth(1), done == NOT || then == NOT ? VOID : done - then);
    m.men--;
  }

  private static int need(int by, int what) {
    int men = m.men;
    int clamps = m.clamps;
    int answer = NOT;
    for (int some = what == 0 ? 6 : 3; some >= 0; some--) {
      m.men = what == 1 ? some : men;
      m.clamps = what == 0 ? some : clamps;
      int done = m.soonestDone();
      answer = done != NOT && done <= by ? some : answer;
    }
    m.men = men;
    m.clamps = clamps;
    return answer;
  }

  private static void wholeOrder(int run) {
    due.promise(14);
    int greatest = NOT;
    int least = NOT;
    int glue = m.glue;
    for (m.glue = 0; m.glue <= 99; m.glue++) {
      if (m.order(plan, false).size() == plan.length) {
        greatest = m.glue;
        least = least == NOT ? m.glue : least;
      }
    }
    m.glue = glue;
    due.is(run + " greatest glue", x.glue(0, 0), greatest);
    due.is(run + " least glue", x.glue(0, 1), least);
    due.promise(16);
    int bits = 0;
    int in = m.order(plan, false).size();
    for (int out = 0; out < plan.length; out++) {
      int[] rest = new int[plan.length - 1];
      for (int i = 0; i < rest.length; i++) {
        rest[i] = plan[i < out ? i : i + 1];
      }
      bits |= m.order(rest, false).size() > in ? 1 << plan[out] : 0;
    }
    due.is(run + " in the way", x.inWay(0), bits);
    due.promise(18);
    int greatestSet = 0;
    for (int set = (1 << m.size) - 1; set >= 0; set--) {
      int hands = 0;
      boolean all = true;
      for (int j = 0; j < m.size; j++) {
        if ((set >> j & 1) == 1) {
          hands += m.of[j][1];
          all &= m.of[j][4] == 0;
        }
      }
      all &= hands <= 2 + 2 * m.men;
      due.is(run + " at once " + set, x.atOnce(set), all ? 1 : 0);
      if (all && Integer.bitCount(set) >= Integer.bitCount(greatestSet)) {
        greatestSet = set;
      }
    }
    due.is(run + " at once", x.atOnce(-1), greatestSet);
  }

  private static void wrongAndRound(int run) {
    due.promise(19);
    for (int k = 0; k < plan.length; k++) {
      for (int i = k; i < plan.length; i++) {
        due.is(run + " wrong " + k + i, x.wrong(0, 10 * k + i), wrong(k, i));
      }
    }
    due.promise(20);
    for (int n = 1; n <= 5; n++) {
      due.is(run + " round " + n, x.round(0, n), round(n));
    }
  }

  private static int wrong(int k, int i) {
    List<Fitted> all = m.order(plan, false);
    if (all.size() <= i) {
      return NOT;
    }
    int now = all.get(i).fitted + 2 * (i - k + 1);
    List<Fitted> anew = new ArrayList<>(all.subList(0, k));
    List<Fitted> chair = new ArrayList<>(anew);
    for (int p = k; p < plan.length; p++) {
      if (!m.add(anew, chair, plan[p], now, false)) {
        return NOT;
      }
      now = anew.get(p).fitted;
    }
    return Model.done(anew);
  }

  private static int round(int n) {
    List<Fitted> all = new ArrayList<>();
    int now = 0;
    for (int c = 0; c < n; c++) {
      List<Fitted> chair = new ArrayList<>();
      for (int j : plan) {
        if (!m.add(all, chair, j, now, false)) {
          return NOT;
        }
        now = all.get(all.size() - 1).fitted;
      }
    }
    return Model.done(all);
  }

  private static void dripsAndHands(int run, List<Fitted> all) {
    for (int times = 0; times < 3; times++) {
      drip();
      due.promise(21);
      due.is(run + " judged", x.judge(1), m.judge(all, drips));
      due.promise(22);
      int so = 0;
      int first = NOT;
      for (int[] o : m.orders()) {
        List<Fitted> other = m.order(o, false);
        if (other.size() == m.size && m.judge(other, drips) == NOT) {
          int digits = 0;
          for (int j : o) {
            digits = digits * 10 + j;
          }
          first = so == 0 ? digits : first;
          so++;
        }
      }
      due.is(run + " which", x.which(1, 0), so);
      due.is(run + " the first", x.which(1, 1), first);
      due.promise(23);
      int men = m.men;
      int who = NOT;
      for (m.men = 3; m.men >= 0; m.men--) {
        who = m.judge(m.order(plan, false), drips) == NOT ? m.men : who;
      }
      m.men = men;
      due.is(run + " who", x.who(1), who);
    }
    due.promise(24);
    int bits = 0;
    int most = 0;
    for (Fitted f : all) {
      bits |= f.hands > 0 ? 1 << f.joint : 0;
    }
    for (int minute = 0; minute <= Model.done(all); minute++) {
      most = Math.max(most, m.clampsHeld(all, minute));
    }
    due.is(run + " by hand", x.byHand(0, 0), bits);
    due.is(run + " clamps at once", x.byHand(0, 1), most);
  }

  private static void drawn(int run) {
    due.promise(25);
    int seed = random.nextInt();
    int n = 1 + random.nextInt(30);
    int z = seed;
    int together = 0;
    int whole = 0;
    for (int c = 0; c < n; c++) {
      List<Fitted> all = new ArrayList<>();
      List<Fitted> chair = new ArrayList<>();
      int now = 0;
      for (int j : plan) {
        int minute = m.begin(all, chair, j, now, false);
        if (minute < 0) {
          break;
        }
        z = z * 1103515245 + 12345;
        int takes = (z >>> 8) % 12 < m.slips ? 2 * m.of[j][0] : m.of[j][0];
        if (!m.glueOn(all, chair, j, minute, takes, false)) {
          break;
        }
        now = minute + takes;
      }
      together += Model.done(all);
      whole += all.size() == plan.length ? 1 : 0;
    }
    due.is(run + " drawn", x.drawn(0, seed, n, 0), together);
    due.is(run + " drawn whole", x.drawn(0, seed, n, 1), whole);
  }

  /** What is fitted stays as it was fitted, whatever is mended later. */
  private static void deeds() {
    due.promise(26);
    List<Fitted> all = new ArrayList<>();
    int now = 0;
    for (int step = 0; step < 25; step++) {
      int deed = random.nextInt(12);
      if (deed == 0) {
        due.is("chair", x.chair(), all.size());
        all = new ArrayList<>();
      } else if (deed < 4) {
        int n = 1 + random.nextInt(12);
        now += n;
        due.is("stay", x.stay(n), now);
      } else if (deed == 4) {
        number(0, 6 + random.nextInt(5), random.nextInt(4));
      } else if (deed == 5 && m.size > 0) {
        number(random.nextInt(m.size), random.nextInt(4), random.nextInt(3));
      } else if (m.size > 0) {
        int j = random.nextInt(m.size);
        boolean there = false;
        for (Fitted f : all) {
          there |= f.joint == j;
          if (f.joint == j) {
            due.is("test", x.test(j), f.set <= now ? 1 : 0);
          }
        }
        if (there) {
          due.is("fitted already", x.fit(j), -5);
        } else if (m.add(all, new ArrayList<>(all), j, now, false)) {
          now = all.get(all.size() - 1).fitted;
          due.is("fit", x.fit(j), now);
        } else {
          due.is("does not go in", x.fit(j), NOT);
        }
      }
      due.is("NOW", x.led(4), now);
    }
  }

  /** Texts that are nearly laws: a fault is the first byte behind which no text goes on. */
  private static void laws() {
    StringBuilder text = new StringBuilder();
    write(text, 0, 4);
    if (text.length() > 110) {
      return;
    }
    for (int i = random.nextInt(3); i > 0 && text.length() > 0; i--) {
      int at = random.nextInt(text.length());
      if (random.nextBoolean()) {
        text.setCharAt(at, "0123456789gwfhnk()!-+*/%<=>&|?;".charAt(random.nextInt(31)));
      } else {
        text.deleteCharAt(at);
      }
    }
    String law = text.toString();
    HeldTillSet h = new HeldTillSet();
    h.joint(3, 1);
    h.joint(5, 1);
    int n = random.nextInt(8);
    Reader reader = new Reader(law, new int[] {10, 20, 5, 1, n, 1});
    int value = reader.lines();
    due.promise(7);
    due.is("law " + law, Due.law(h, law), reader.fault ? -100 - reader.at : 1);
    due.promise(8);
    due.is("sets by " + law, h.sets(10 + n), reader.fault ? 10 : value < 0 ? 0 : Math.min(value, 99));
  }

  private static void write(StringBuilder text, int level, int deep) {
    if (level == 0) {
      for (int lines = 1 + random.nextInt(3); lines > 0; lines--) {
        write(text, 1, deep);
        if (random.nextInt(2) == 0) {
          text.append('?');
          write(text, 1, deep);
        }
        if (lines > 1) {
          text.append(';');
        }
      }
    } else if (level < 6) {
      String signs = new String[] {"|", "&", "<=>", "+-", "*/%"}[level - 1];
      write(text, level + 1, deep);
      if (random.nextInt(3) == 0) {
        text.append(signs.charAt(random.nextInt(signs.length())));
        write(text, level + 1, deep);
      }
    } else {
      operand(text, deep);
    }
  }

  private static void operand(StringBuilder text, int deep) {
    int kind = random.nextInt(deep > 0 ? 8 : 5);
    if (kind < 2) {
      text.append(random.nextInt(random.nextBoolean() ? 20 : 12000));
    } else if (kind < 5) {
      text.append("gwfhnk".charAt(random.nextInt(6)));
    } else if (kind == 5) {
      text.append('(');
      write(text, 1, deep - 1);
      text.append(')');
    } else {
      text.append(kind == 6 ? '!' : '-');
      operand(text, deep - (random.nextInt(3) == 0 ? 0 : 1));
    }
  }
}
