/** Promises 26 to 34: gluing in deed, an image, changes undone. */
public final class DeedTest {
  private static final int BAD = -1, NOT = -2, STATE = -5;
  private static final Due due = new Due("DeedTest");

  public static void main(String[] args) {
    fit();
    fitAsAnOrderDoes();
    heldAsItWas();
    stay();
    test();
    chair();
    led();
    image();
    imageKeepsHolding();
    undo();
    fortyAreKept();
    redo();
    due.end();
  }

  private static void fit() {
    due.promise(26);
    HeldTillSet x = Due.three();
    due.is("joint 3", x.fit(3), BAD);
    due.is("joint -1", x.fit(-1), BAD);
    due.is("the least int", x.fit(Integer.MIN_VALUE), BAD);
    due.is("fit(0)", x.fit(0), 2);
    due.is("again", x.fit(0), STATE);
    due.is("NOW", x.of(0, 11), 2);
    due.is("fit(1)", x.fit(1), 5);
    due.is("waits for a hand", x.fit(2), 13);
    due.is("fitted", x.of(0, 12), 7);
    x = Due.three();
    x.mend(2, 4, 2);
    due.is("NEEDS", x.fit(2), NOT);
    due.is("NOW stays", x.of(0, 11), 0);
    due.is("not fitted", x.of(0, 12), 0);
    x.fit(1);
    due.is("what it needs is there", x.fit(2), 4);
    x.mend(0, 1, 3);
    due.is("more than all hands", x.fit(0), NOT);
    x.mend(0, 6, 1);
    due.is("with a brother, once hands are free", x.fit(0), 15);
    x = Due.three();
    x.mend(2, 5, 1);
    x.fit(0);
    x.fit(1);
    due.is("sprung: fast by the minute in which it is begun", x.fit(2), NOT);
    due.is("NOW stays", x.of(0, 11), 5);
    due.is("fitted already is ahead of not going in", x.fit(1), STATE);
    x = Due.three();
    x.mend(2, 5, 1);
    x.fit(0);
    due.is("soft yet", x.fit(2), 3);
    x = new HeldTillSet();
    x.joint(1, 0);
    x.joint(1, 0);
    for (int j = 0; j < 2; j++) {
      x.mend(j, 2, 2);
      x.mend(j, 3, 0);
    }
    x.fit(0);
    due.is("not as many hands behind it", x.fit(1), NOT);
    x.stay(8);
    due.is("nor a minute too early", x.fit(1), NOT);
    x.stay(1);
    due.is("in the minute in which the first has set", x.fit(1), 11);
  }

  private static void fitAsAnOrderDoes() {
    due.promise(26);
    HeldTillSet x = Due.three();
    x.mend(0, 7, 1);
    Due.law(x, "n*3+f");
    Due.bytes(x, 0, 2, 0, 1);
    for (int k = 0; k < 3; k++) {
      int fitted = x.order(0, k, 1);
      due.is("the " + k + "-th", x.fit((int) x.element(0, k)), fitted);
    }
    int last = x.done(0, 1);
    x.stay(last - x.of(0, 11) - 1);
    due.is("not set yet", x.test(1) + x.test(0) + x.test(2), 2);
    x.stay(1);
    due.is("set", x.test(1) + x.test(0) + x.test(2), 3);
  }

  /** Numbers mended later change nothing of what is fitted already. */
  private static void heldAsItWas() {
    due.promise(26);
    HeldTillSet x = Due.three();
    x.fit(0);
    x.mend(0, 2, 0);
    x.mend(0, 8, 99);
    due.is("one hand holds on till minute 12", x.fit(1), 5);
    x.mend(1, 2, 2);
    due.is("joint 1 set at once", x.test(1), 0);
    due.is("both hands hold, one till minute 6", x.fit(2), 7);
    due.is("the first is soft", x.test(0), 0);
    x.stay(5);
    due.is("set in minute 12", x.test(0), 1);
    HeldTillSet y = Due.three();
    y.mend(0, 7, 1);
    y.fit(0);
    y.mend(0, 7, 0);
    due.is("the clamp stays where it is", y.fit(1), 5);
    due.is("one hand is left", y.fit(2), 6);
  }

  private static void stay() {
    due.promise(27);
    HeldTillSet x = Due.three();
    due.is("0", x.stay(0), BAD);
    due.is("1000", x.stay(1000), BAD);
    due.is("-1", x.stay(-1), BAD);
    due.is("1", x.stay(1), 1);
    for (int i = 1; i <= 10; i++) {
      due.is("999", x.stay(999), 1 + 999 * i);
    }
    due.is("more than 9999", x.stay(10), STATE);
    due.is("bad ahead of state", x.stay(1000), BAD);
    due.is("9999", x.stay(8), 9999);
    due.is("not one more", x.stay(1), STATE);
    due.is("waited", x.led(2), 9999);
    due.is("fitting goes on", x.fit(0), 10001);
    due.is("staying does not", x.stay(1), STATE);
  }

  private static void test() {
    due.promise(28);
    HeldTillSet x = Due.three();
    due.is("joint 3", x.test(3), BAD);
    due.is("joint -1", x.test(-1), BAD);
    due.is("not fitted", x.test(0), STATE);
    x.fit(0);
    due.is("soft", x.test(0), 0);
    x.stay(9);
    due.is("minute 11", x.test(0), 0);
    x.stay(1);
    due.is("minute 12", x.test(0), 1);
    due.is("another", x.test(1), STATE);
    Due.law(x, "0");
    x.fit(1);
    due.is("at once", x.test(1), 1);
  }

  private static void chair() {
    due.promise(29);
    HeldTillSet x = Due.three();
    due.is("none", x.chair(), 0);
    x.fit(0);
    x.fit(1);
    due.is("two", x.chair(), 2);
    due.is("nothing is fitted", x.of(0, 12), 0);
    due.is("NOW goes on", x.of(0, 11), 5);
    due.is("not fitted", x.test(0), STATE);
    due.is("nothing is held any more", x.fit(0), 7);
    x.mend(2, 4, 2);
    due.is("what was needed is gone", x.fit(2), NOT);
    Due.law(x, "n*10+1");
    x.chair();
    x.fit(1);
    x.stay(1);
    due.is("how many are fitted begins anew", x.test(1), 1);
  }

  private static void led() {
    due.promise(30);
    HeldTillSet x = Due.three();
    x.mend(2, 4, 2);
    x.fit(2);
    x.fit(2);
    x.fit(9);
    x.fit(0);
    x.fit(0);
    x.stay(20);
    x.stay(7);
    x.stay(0);
    x.chair();
    x.fit(0);
    x.fit(1);
    x.chair();
    x.chair();
    int[] want = {3, 2, 27, 3, 34};
    for (int what = 0; what <= 4; what++) {
      due.is("led(" + what + ")", x.led(what), want[what]);
    }
    due.is("led(-1)", x.led(-1), BAD);
    due.is("led(5)", x.led(5), BAD);
  }

  private static void image() {
    due.promise(31);
    HeldTillSet x = Due.three();
    x.fit(0);
    x.stay(4);
    x.chair();
    x.fit(1);
    x.mend(2, 4, 1);
    x.fit(2);
    due.is("image", x.image(), 9);
    x.mend(2, 4, 0);
    x.fit(2);
    x.stay(30);
    x.chair();
    x.fit(0);
    due.promise(32);
    for (int times = 0; times < 2; times++) {
      due.is("back", x.back(), 9);
      due.is("fitted", x.of(0, 12), 2);
      int[] want = {2, 1, 4, 1, 9};
      for (int what = 0; what <= 4; what++) {
        due.is("led(" + what + ")", x.led(what), want[what]);
      }
      due.is("not set", x.test(1), 0);
      due.is("not fitted", x.test(0), STATE);
      due.is("numbers are no deeds", x.of(2, 4), 0);
      x.fit(2);
      x.stay(100);
    }
    due.is("a later image", x.image(), 110);
    x.chair();
    due.is("back", x.back(), 110);
    due.is("fitted", x.of(0, 12), 6);
    HeldTillSet y = Due.three();
    due.is("none", y.back(), STATE);
    y.fit(0);
    y.image();
    y.joint(1, 0);
    y.fit(3);
    due.is("a joint that came since", y.of(0, 12), 9);
    y.back();
    due.is("is not fitted", y.of(0, 12), 1);
    due.is("but there", y.count(0), 4);
    due.is("and is fitted", y.fit(3), 3);
  }

  private static void imageKeepsHolding() {
    due.promise(32);
    HeldTillSet x = Due.three();
    x.mend(0, 7, 1);
    x.mend(0, 2, 2);
    x.fit(0);
    x.fit(1);
    x.image();
    x.chair();
    x.fit(0);
    x.back();
    due.is("one hand is free: joint 1 by hand, 0 by the clamp", x.fit(2), 6);
    x.stay(5);
    due.is("not yet", x.test(0), 0);
    x.stay(1);
    due.is("in minute 12", x.test(0), 1);
    HeldTillSet y = Due.three();
    y.mend(0, 7, 1);
    y.mend(0, 6, 1);
    y.mend(1, 2, 2);
    y.mend(2, 1, 2);
    y.fit(0);
    y.fit(1);
    y.image();
    y.chair();
    y.fit(1);
    y.fit(0);
    y.fit(2);
    y.back();
    y.mend(2, 1, 3);
    due.is("two of four hands hold joint 1 till minute 15", y.fit(2), 16);
    y.back();
    y.mend(2, 1, 0);
    y.mend(2, 2, 2);
    due.is("the clamp holds joint 0: two hands are left", y.fit(2), 6);
    y.chair();
    y.fit(1);
    y.back();
    y.mend(0, 6, 0);
    due.is("the clamp is not free, nor is a hand", y.fit(2), NOT);
  }

  private static void undo() {
    due.promise(33);
    HeldTillSet x = Due.three();
    due.is("none", x.undo(), STATE);
    x.mend(0, 0, 7);
    x.mend(0, 0, 7);
    x.mend(0, 0, 10);
    x.mend(0, 8, 50);
    x.mend(1, 4, 4);
    due.is("three", x.count(2), 3);
    due.is("undo", x.undo(), 2);
    due.is("NEEDS", x.of(1, 4), 0);
    due.is("GLUE as yet", x.of(0, 8), 50);
    x.fit(0);
    due.is("undo", x.undo(), 1);
    due.is("GLUE", x.of(0, 8), 10);
    due.is("undo", x.undo(), 0);
    due.is("FITS", x.of(0, 0), 2);
    due.is("none", x.undo(), STATE);
    due.is("deeds are none", x.of(0, 12), 1);
    HeldTillSet y = Due.three();
    int[] values = {3, 1, 0, 0, 4, 4, 2, 3, 4, 5, 6};
    for (int what = 0; what <= 10; what++) {
      y.mend(0, what, values[what]);
    }
    due.is("all numbers", y.count(2), 11);
    int[] first = {2, 2, 1, 1, 0, 0, 0, 0, 10, 20, 0};
    for (int what = 10; what >= 0; what--) {
      due.is("undo", y.undo(), what);
      due.is("of", y.of(0, what), first[what]);
    }
    for (int what = 0; what <= 10; what++) {
      due.is("redo", y.redo(), 10 - what);
      due.is("of", y.of(0, what), values[what]);
    }
  }

  private static void fortyAreKept() {
    due.promise(33);
    HeldTillSet x = Due.three();
    for (int i = 1; i <= 45; i++) {
      x.mend(0, 8, 10 + i);
    }
    due.is("forty", x.count(2), 40);
    for (int i = 39; i >= 0; i--) {
      due.is("undo", x.undo(), i);
      due.is("GLUE", x.of(0, 8), 15 + i);
    }
    due.is("no more", x.undo(), STATE);
    for (int i = 39; i >= 0; i--) {
      due.is("redo", x.redo(), i);
    }
    due.is("GLUE", x.of(0, 8), 55);
    due.is("no more", x.redo(), STATE);
    HeldTillSet y = Due.three();
    for (int i = 0; i < 43; i++) {
      y.mend(i % 3, i % 2 == 0 ? 4 : 5, i < 6 ? 8 : y.of(i % 3, i % 2 == 0 ? 4 : 5) + 8);
    }
    int[] before = new int[6];
    for (int i = 0; i < 6; i++) {
      before[i] = y.of(i / 2, 4 + i % 2);
    }
    for (int i = 0; i < 40; i++) {
      y.undo();
    }
    int[] kept = {8, 0, 0, 8, 8, 0};
    for (int i = 0; i < 6; i++) {
      due.is("only the first three stay, number " + i, y.of(i / 2, 4 + i % 2), kept[i]);
    }
    for (int i = 0; i < 40; i++) {
      y.redo();
    }
    for (int i = 0; i < 6; i++) {
      due.is("done again, number " + i, y.of(i / 2, 4 + i % 2), before[i]);
    }
  }

  private static void redo() {
    due.promise(34);
    HeldTillSet x = Due.three();
    due.is("none", x.redo(), STATE);
    x.mend(0, 6, 1);
    x.mend(0, 6, 2);
    x.mend(0, 6, 3);
    due.is("nothing undone", x.redo(), STATE);
    x.undo();
    x.undo();
    due.is("redo", x.redo(), 1);
    due.is("MEN", x.of(0, 6), 2);
    due.is("the same number is no change", x.mend(0, 6, 2), 2);
    due.is("a bad one neither", x.mend(0, 6, 4), BAD);
    x.joint(1, 1);
    x.fit(0);
    due.is("redo", x.redo(), 0);
    due.is("MEN", x.of(0, 6), 3);
    x.undo();
    x.mend(0, 7, 1);
    due.is("another came behind", x.redo(), STATE);
    due.is("three", x.count(2), 3);
    x.undo();
    due.is("CLAMPS", x.of(0, 7), 0);
    due.is("MEN", x.of(0, 6), 2);
  }
}
