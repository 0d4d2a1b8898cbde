import java.util.Random;

/** Any calls with any arguments: none throws, the same calls answer the same, and what is refused changes nothing. */
public final class AnyCallsTest {
  private static final Due due = new Due("AnyCallsTest");
  private static final int[] FAR = {Integer.MIN_VALUE, Integer.MAX_VALUE, -1000, -2, -1, 128, 256, 1000, 1 << 20};

  public static void main(String[] args) {
    for (int run = 0; run < 400; run++) {
      due.is("run " + run + " again", play(run), play(run));
    }
    for (int run = 0; run < 60; run++) {
      refused(run);
    }
    due.end();
  }

  private static int any(Random random, int top) {
    return random.nextInt(25) == 0 ? FAR[random.nextInt(FAR.length)] : random.nextInt(top + 1);
  }

  private static long play(int run) {
    Random random = new Random(run);
    HeldTillSet x = new HeldTillSet();
    long sum = 0;
    for (int i = 0; i < 512; i++) {
      sum = sum * 31 + call(x, random.nextInt(46), random);
    }
    return sum;
  }

  /** Refusals of all calls but fit(), whose refusals are counted, and act(), which clears the trace. */
  private static void refused(int run) {
    Random random = new Random(run);
    int calls = random.nextInt(120);
    for (int i = 0; i < 60; i++) {
      int which = random.nextInt(46);
      long seed = random.nextLong();
      HeldTillSet x = played(run, calls);
      long answer = call(x, which, new Random(seed));
      boolean refusal = answer < 0 && answer >= -14 && which != 25 && which != 35;
      if (refusal) {
        Told.alike(due, "run " + run + ", refused call " + which, Told.of(x), Told.of(played(run, calls)));
      }
    }
  }

  private static HeldTillSet played(int run, int calls) {
    Random random = new Random(run);
    HeldTillSet x = new HeldTillSet();
    for (int i = 0; i < calls; i++) {
      call(x, random.nextInt(46), random);
    }
    return x;
  }

  private static long call(HeldTillSet x, int which, Random r) {
    switch (which) {
      case 0: return x.joint(any(r, 10), any(r, 4));
      case 1: return x.joints(any(r, 6), any(r, 20), any(r, 8));
      case 2: return x.mend(any(r, 7), any(r, 5), any(r, 3));
      case 3: return x.of(any(r, 7), any(r, 13));
      case 4: return x.feed(any(r, 255));
      case 5: return x.feed("0123456789gwfhnk()!-+*/%<=>&|?;".charAt(r.nextInt(31)));
      case 6: return x.law();
      case 7: return x.sets(any(r, 79));
      case 8: return x.order(any(r, 6), any(r, 8), any(r, 3));
      case 9: return x.done(any(r, 6), any(r, 2));
      case 10: return x.can(any(r, 2));
      case 11: return x.soonest(any(r, 8) - 1);
      case 12: return x.need(any(r, 999), any(r, 2));
      case 13: return x.glue(any(r, 6), any(r, 2));
      case 14: return x.worth(any(r, 2));
      case 15: return x.inWay(any(r, 6));
      case 16: return x.dry();
      case 17: return x.atOnce(any(r, 128) - 1);
      case 18: return x.wrong(any(r, 6), any(r, 80));
      case 19: return x.round(any(r, 6), any(r, 6));
      case 20: return x.judge(any(r, 66));
      case 21: return x.which(any(r, 6), any(r, 2));
      case 22: return x.who(any(r, 66));
      case 23: return x.byHand(any(r, 6), any(r, 2));
      case 24: return x.drawn(any(r, 6), r.nextInt(), any(r, 31), any(r, 2));
      case 25: return x.fit(any(r, 7));
      case 26: return x.stay(any(r, 50));
      case 27: return x.test(any(r, 7));
      case 28: return x.chair();
      case 29: return x.led(any(r, 5));
      case 30: return x.image();
      case 31: return x.back();
      case 32: return x.undo();
      case 33: return x.redo();
      case 34: return x.body(any(r, 8));
      case 35: return x.act(any(r, 60), any(r, 4), r.nextInt());
      case 36: return x.trace(any(r, 24));
      case 37: return x.keep(any(r, 6), any(r, 50) - 1);
      case 38: return x.row(any(r, 6), any(r, 5), any(r, 61));
      case 39: return x.row(r.nextInt(6), r.nextInt(2), 12);
      case 40: return x.put(any(r, 6), any(r, 12), any(r, 7));
      case 41: return x.element(any(r, 6), any(r, 60));
      case 42: return x.shift(any(r, 6), any(r, 20), any(r, 6), any(r, 20), any(r, 20));
      case 43: return x.taken(any(r, 6), any(r, 8));
      case 44: return x.count(any(r, 5));
      default: return x.mend(0, any(r, 11), any(r, 12));
    }
  }
}
