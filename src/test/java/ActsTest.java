import java.util.ArrayList;
import java.util.List;
import java.util.Random;

/** Promises 35 to 37: bodies and their acts, beside the same kinds written as Java classes. */
public final class ActsTest {
  private static final int BAD = -1, FULL = -3;
  private static final Due due = new Due("ActsTest");
  private static final List<Integer> ran = new ArrayList<>();

  interface Fits {
    int n();

    default int fits(int x) { ran.add(1); return x + n(); }
  }

  interface Tells {
    int holds(int x);

    int sets(int x);

    default int tells(int x) { ran.add(2); return holds(x) - sets(1); }
  }

  static class Joint implements Fits, Tells {
    int number;

    public int n() { return number; }

    public int holds(int x) { ran.add(10); return fits(x) * 2; }

    public int sets(int x) { ran.add(11); return x ^ number; }
  }

  static class Rung extends Joint {
    public int fits(int x) { ran.add(20); return super.fits(x) + 3; }
  }

  static class Leg extends Joint {
    public int holds(int x) { ran.add(30); return -super.holds(x); }
  }

  static class Seat extends Leg {
    public int sets(int x) { ran.add(40); return super.sets(x) * 3; }

    public int holds(int x) { ran.add(41); return super.holds(x + 1); }
  }

  static class Clamp extends Rung {
    public int tells(int x) { ran.add(50); return super.tells(x) ^ 5; }
  }

  static class Brother extends Seat {
    public int sets(int x) { ran.add(60); return super.sets(x) - fits(2); }

    public int tells(int x) { ran.add(61); return super.tells(x) + 1; }
  }

  static class Drip extends Joint {
    public int fits(int x) { ran.add(70); return super.fits(x) * 2; }
  }

  static class Thumb extends Drip {
    public int holds(int x) { ran.add(80); return super.holds(x) + sets(2); }

    public int fits(int x) { ran.add(81); return super.fits(x) - 1; }
  }

  public static void main(String[] args) {
    body();
    besideJava();
    noSuchAct();
    traces();
    due.end();
  }

  private static Joint make(int kind) {
    switch (kind) {
      case 0: return new Joint();
      case 1: return new Rung();
      case 2: return new Leg();
      case 3: return new Seat();
      case 4: return new Clamp();
      case 5: return new Brother();
      case 6: return new Drip();
      default: return new Thumb();
    }
  }

  private static int perform(Joint j, int act, int x) {
    ran.clear();
    switch (act) {
      case 0: return j.fits(x);
      case 1: return j.holds(x);
      case 2: return j.sets(x);
      default: return j.tells(x);
    }
  }

  private static void body() {
    due.promise(35);
    HeldTillSet x = new HeldTillSet();
    due.is("kind -1", x.body(-1), BAD);
    due.is("kind 8", x.body(8), BAD);
    for (int i = 0; i < 50; i++) {
      due.is("body", x.body(i % 8), i);
    }
    due.is("full", x.body(0), FULL);
    due.is("bad ahead of full", x.body(8), BAD);
    due.is("count(3)", x.count(3), 50);
  }

  private static void besideJava() {
    Random random = new Random(5);
    for (int kind = 0; kind < 8; kind++) {
      HeldTillSet x = new HeldTillSet();
      int number = kind * 6;
      for (int i = 0; i < number; i++) {
        x.body(7 - kind);
      }
      x.body(kind);
      Joint real = make(kind);
      real.number = number;
      for (int act = 0; act < 4; act++) {
        for (int v : new int[] {0, 1, -1, 5, Integer.MAX_VALUE, Integer.MIN_VALUE, random.nextInt()}) {
          due.promise(36);
          int want = perform(real, act, v);
          due.is("kind " + kind + ", act " + act + ", " + v, x.act(number, act, v), want);
          due.is("count(4)", x.count(4), ran.size());
          due.promise(37);
          for (int i = 0; i < ran.size() && v < 2; i++) {
            due.is("trace(" + i + ") of kind " + kind + ", act " + act, x.trace(i), ran.get(i));
          }
          due.is("behind the trace", x.trace(ran.size()), BAD);
        }
      }
    }
  }

  private static void noSuchAct() {
    due.promise(36);
    HeldTillSet x = new HeldTillSet();
    x.body(5);
    int[][] none = {{1, 0}, {-1, 0}, {0, 4}, {0, -1}, {50, 3}, {Integer.MIN_VALUE, 0}, {0, Integer.MAX_VALUE}};
    for (int[] n : none) {
      x.act(0, 3, 1);
      due.is("act(" + n[0] + ", " + n[1] + ", 7)", x.act(n[0], n[1], 7), 0);
      due.is("count(4)", x.count(4), 0);
      due.is("no trace then", x.trace(0), BAD);
    }
  }

  private static void traces() {
    due.promise(37);
    HeldTillSet x = new HeldTillSet();
    due.is("none yet", x.trace(0), BAD);
    x.body(5);
    x.act(0, 3, 1);
    int[] want = {61, 2, 41, 30, 10, 1, 60, 40, 11, 1};
    for (int i = 0; i < want.length; i++) {
      due.is("trace(" + i + ")", x.trace(i), want[i]);
    }
    due.is("trace(10)", x.trace(10), BAD);
    due.is("trace(-1)", x.trace(-1), BAD);
    x.act(0, 0, 1);
    due.is("of the latest act", x.trace(0), 1);
    due.is("of the latest act", x.trace(1), BAD);
  }
}
