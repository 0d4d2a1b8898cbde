/** Each edge that the document names for promises 26 to 34: gluing in deed, an image, changes. */
public final class EdgesDeedTest {
  private static final int BAD = -1, NOT = -2, STATE = -5;
  private static final int MIN = Integer.MIN_VALUE, MAX = Integer.MAX_VALUE;
  private static final Due due = new Due("EdgesDeedTest");

  public static void main(String[] args) {
    fitOfJoints();
    fitOnce();
    fitWhatWillNotGoIn();
    fitAsSoonAsMayBe();
    fitIsHeld();
    fitFarOff();
    stayOf1To999();
    stayTill9999();
    testOfJoints();
    testTheMinute();
    chairOfNoneAndAll();
    chairHoldsNothing();
    ledWhat();
    ledCounts();
    imageAndBack();
    imageKeepsLed();
    imageKeepsWhatIsHeld();
    imageKeepsNoNumbers();
    jointsThatCameSince();
    undoOneByOne();
    undoForty();
    toldTheSame();
    whatIsNoChange();
    redoInTurn();
    redoForty();
    redoNoMore();
    due.end();
  }

  private static HeldTillSet loose(int n) {
    HeldTillSet x = new HeldTillSet();
    for (int j = 0; j < n; j++) {
      x.joint(1, 0);
      x.mend(j, 2, 0);
    }
    return x;
  }

  /** Two joints of 1 minute, held by two hands each and by no clamp, that set in 10 minutes. */
  private static HeldTillSet heavy() {
    HeldTillSet x = new HeldTillSet();
    for (int j = 0; j < 2; j++) {
      x.joint(1, 0);
      x.mend(j, 2, 2);
      x.mend(j, 3, 0);
    }
    return x;
  }

  private static void fitOfJoints() {
    due.promise(26);
    due.says("FIT a JOINT; BAD");
    for (int size = 0; size <= 7; size++) {
      HeldTillSet x = loose(size);
      for (int joint : new int[] {MIN, -1, size, 7, MAX}) {
        due.is("fit(" + joint + ") of " + size, x.fit(joint), BAD);
      }
      for (int j = 0; j < size; j++) {
        due.is("fit(" + j + ") of " + size, x.fit(j), j + 1);
      }
      due.is("bad ones are not counted", x.led(1), 0);
      due.is("those that went in are", x.led(0), size);
      due.is("fitted", x.of(0, 12), (1 << size) - 1);
    }
  }

  private static void fitOnce() {
    due.promise(26);
    due.says("STATE: it is fitted, ahead of NOT");
    HeldTillSet x = loose(2);
    x.fit(0);
    due.is("again", x.fit(0), STATE);
    x.mend(0, 1, 3);
    due.is("fitted, and would not go in", x.fit(0), STATE);
    due.is("NOW", x.of(0, 11), 1);
    due.is("no refusal", x.led(1), 0);
    due.is("no fitting", x.led(0), 1);
    x.chair();
    due.is("on a new chair it would not go in", x.fit(0), NOT);
    x.mend(0, 1, 2);
    due.is("on a new chair it is not fitted", x.fit(0), 2);
    x.stay(999);
    due.is("set, but fitted", x.fit(0), STATE);
  }

  private static void fitWhatWillNotGoIn() {
    due.promise(26);
    due.says("NOT: it will not go in (NOW stays)");
    for (int why = 0; why <= 3; why++) {
      HeldTillSet x = heavy();
      x.fit(0);
      if (why == 0) {
        x.mend(1, 4, 4);
      } else if (why == 1) {
        x.mend(1, 5, 1);
        x.stay(10);
      } else if (why == 2) {
        x.mend(1, 1, 3);
      }
      int now = x.of(0, 11);
      for (int times = 1; times <= 3; times++) {
        due.is("why " + why, x.fit(1), NOT);
        due.is("NOW", x.of(0, 11), now);
        due.is("fitted", x.of(0, 12), 1);
        due.is("how often", x.led(1), times);
      }
      due.is("joints fitted", x.led(0), 1);
      due.is("not fitted", x.test(1), STATE);
    }
  }

  private static void fitAsSoonAsMayBe() {
    due.promise(26);
    due.says("begun as soon as may be from NOW on; NOW is when it is fitted");
    for (int waited = 0; waited <= 12; waited++) {
      HeldTillSet x = heavy();
      x.mend(1, 1, 1);
      x.fit(0);
      if (waited > 0) {
        x.stay(waited);
      }
      due.is("the hands are free in 11, NOW is " + (1 + waited), x.fit(1), Math.max(11, 1 + waited) + 1);
      due.is("NOW", x.of(0, 11), Math.max(11, 1 + waited) + 1);
      due.is("it waits for hands, that is no wait", x.led(2), waited);
    }
    for (int waited = 8; waited <= 11; waited++) {
      HeldTillSet x = loose(2);
      x.mend(1, 5, 1);
      x.fit(0);
      x.stay(waited);
      due.is("sprung in while the other is soft, in " + (1 + waited), x.fit(1), 1 + waited < 11 ? waited + 2 : NOT);
    }
    for (int waited = 8; waited <= 10; waited++) {
      HeldTillSet x = heavy();
      x.fit(0);
      x.stay(waited);
      due.is("fitted in " + (2 + waited) + ", the hands are free in 11", x.fit(1), 2 + waited < 11 ? NOT : 2 + waited);
    }
  }

  private static void fitIsHeld() {
    due.promise(26);
    due.says("what an ORDER does with the next one: clamps first, else hands");
    for (int clamps = 0; clamps <= 6; clamps++) {
      HeldTillSet x = new HeldTillSet();
      for (int j = 0; j < 7; j++) {
        x.joint(1, 0);
      }
      x.mend(0, 7, clamps);
      Due.law(x, "99");
      for (int j = 0; j < 7; j++) {
        due.is("clamps " + clamps + ", two hands", x.fit(j), j < clamps + 2 ? j + 1 : NOT);
      }
    }
    for (int fits = 1; fits <= 9; fits++) {
      HeldTillSet x = loose(1);
      x.mend(0, 0, fits);
      due.is("FITS", x.fit(0), fits);
    }
    HeldTillSet x = loose(7);
    Due.law(x, "n*10");
    for (int j = 0; j < 7; j++) {
      x.fit(j);
    }
    for (int minute = 7; minute <= 70; minute++) {
      int j = minute / 11;
      due.is("n is " + j + ", in " + minute, x.test(j), j + 1 + 10 * j <= minute ? 1 : 0);
      due.is("the next, in " + minute, j < 6 ? x.test(j + 1) : 0, 0);
      x.stay(1);
    }
  }

  private static void fitFarOff() {
    due.promise(26);
    due.says("NOW is when it is fitted");
    HeldTillSet x = loose(2);
    till(x, 9999);
    due.is("in 9999 a joint is fitted yet", x.fit(0), 10000);
    due.is("and another", x.fit(1), 10001);
    due.is("NOW", x.led(4), 10001);
    due.is("soft", x.test(0), 0);
    due.is("no more waiting", x.stay(1), STATE);
    due.is("a new chair", x.chair(), 2);
    due.is("goes on", x.fit(0), 10002);
  }

  private static void till(HeldTillSet x, int minute) {
    while (x.of(0, 11) < minute) {
      x.stay(Math.min(999, minute - x.of(0, 11)));
    }
  }

  private static void stayOf1To999() {
    due.promise(27);
    due.says("WAIT n minutes (1 .. 999): NOW. BAD");
    for (int n : new int[] {MIN, -999, -1, 0, 1000, 1001, MAX}) {
      HeldTillSet x = loose(1);
      due.is("stay(" + n + ")", x.stay(n), BAD);
      due.is("NOW", x.of(0, 11), 0);
      due.is("waited", x.led(2), 0);
    }
    for (int n : new int[] {1, 2, 500, 998, 999}) {
      HeldTillSet x = new HeldTillSet();
      due.is("stay(" + n + ")", x.stay(n), n);
      due.is("NOW", x.of(0, 11), n);
      due.is("waited", x.led(2), n);
      due.is("again", x.stay(n), 2 * n);
    }
  }

  private static void stayTill9999() {
    due.promise(27);
    due.says("STATE: it would be more than 9999");
    for (int n : new int[] {1, 2, 500, 998, 999}) {
      HeldTillSet x = loose(1);
      till(x, 9999 - n);
      due.is("one too many", x.stay(Math.min(999, n + 1)), n == 999 ? 9999 : STATE);
      due.is("till 9999", n == 999 ? x.led(4) : x.stay(n), 9999);
      due.is("a minute more", x.stay(1), STATE);
      due.is("the most", x.stay(999), STATE);
      due.is("bad is ahead of it", x.stay(1000), BAD);
      due.is("bad is ahead of it", x.stay(0), BAD);
      due.is("NOW", x.led(4), 9999);
      due.is("waited", x.led(2), 9999);
    }
    HeldTillSet x = loose(0);
    till(x, 9001);
    due.is("10000", x.stay(999), STATE);
    due.is("9999", x.stay(998), 9999);
  }

  private static void testOfJoints() {
    due.promise(28);
    due.says("BAD; STATE: it is not fitted");
    for (int size = 0; size <= 7; size++) {
      HeldTillSet x = loose(size);
      for (int joint : new int[] {MIN, -1, size, 7, MAX}) {
        due.is("test(" + joint + ") of " + size, x.test(joint), BAD);
      }
      for (int j = 0; j < size; j++) {
        due.is("not fitted", x.test(j), STATE);
        x.fit(j);
        due.is("fitted", x.test(j), 0);
      }
      x.stay(999);
      for (int j = 0; j < size; j++) {
        due.is("set", x.test(j), 1);
      }
      x.chair();
      for (int j = 0; j < size; j++) {
        due.is("on a new chair", x.test(j), STATE);
      }
    }
  }

  private static void testTheMinute() {
    due.promise(28);
    due.says("TEST: 1, 0");
    for (int set = 0; set <= 3; set++) {
      HeldTillSet x = loose(1);
      Due.law(x, String.valueOf(set));
      x.fit(0);
      for (int minute = 1; minute <= 5; minute++) {
        due.is("set in " + (1 + set) + ", NOW " + minute, x.test(0), 1 + set <= minute ? 1 : 0);
        x.stay(1);
      }
    }
    HeldTillSet x = loose(1);
    x.fit(0);
    Due.law(x, "0");
    x.mend(0, 0, 9);
    due.is("a law that comes behind it", x.test(0), 0);
    x.stay(10);
    due.is("as it was fitted", x.test(0), 1);
  }

  private static void chairOfNoneAndAll() {
    due.promise(29);
    due.says("A NEW CHAIR: how many were fitted");
    for (int fitted = 0; fitted <= 7; fitted++) {
      HeldTillSet x = loose(7);
      for (int j = 0; j < fitted; j++) {
        x.fit(j);
      }
      due.is("of " + fitted, x.chair(), fitted);
      due.is("of none", x.chair(), 0);
      due.is("CHAIRS", x.led(3), 2);
      due.is("nothing is fitted", x.of(0, 12), 0);
      due.is("NOW goes on", x.of(0, 11), fitted);
      due.is("fitted in all", x.led(0), fitted);
      due.is("fitted again", x.fit(0), fitted + 1);
    }
    due.is("without a joint", new HeldTillSet().chair(), 0);
  }

  private static void chairHoldsNothing() {
    due.promise(29);
    due.says("nothing is held any more");
    HeldTillSet x = heavy();
    x.mend(1, 1, 2);
    x.fit(0);
    x.chair();
    due.is("the hands are free at once", x.fit(1), 2);
    x.chair();
    x.mend(0, 3, 1);
    x.mend(1, 3, 1);
    x.mend(1, 1, 0);
    x.mend(0, 7, 1);
    x.fit(0);
    x.chair();
    x.fit(1);
    due.is("and the clamp: the other one is held by hands", x.fit(0), 5);
    x.mend(1, 5, 1);
    x.stay(50);
    x.chair();
    due.is("what has set on the chair ahead does not count", x.fit(1), 56);
    x.mend(0, 4, 2);
    x.chair();
    due.is("nor what was fitted there", x.fit(0), NOT);
  }

  private static void ledWhat() {
    due.promise(30);
    due.says("LED: fitted (what 0), not gone in (1), waited (2), CHAIRS (3), NOW (4). BAD");
    HeldTillSet x = loose(3);
    for (int what : new int[] {MIN, -1, 5, 6, MAX}) {
      due.is("led(" + what + ")", x.led(what), BAD);
    }
    for (int what = 0; what <= 4; what++) {
      due.is("at first", x.led(what), 0);
    }
  }

  private static void ledCounts() {
    due.promise(30);
    due.says("JOINTS fitted, that would not go in, minutes waited, CHAIRS, NOW");
    HeldTillSet x = loose(2);
    x.mend(1, 4, 4);
    int[] want = new int[5];
    for (int i = 1; i <= 60; i++) {
      x.fit(0);
      x.fit(1);
      x.fit(0);
      x.fit(5);
      x.stay(i);
      x.stay(0);
      x.chair();
      want[0]++;
      want[1]++;
      want[2] += i;
      want[3]++;
      want[4] += 1 + i;
    }
    for (int what = 0; what <= 4; what++) {
      due.is("led(" + what + ")", x.led(what), want[what]);
    }
  }

  private static void imageAndBack() {
    due.promise(32);
    due.says("It is laid back: NOW. STATE: there is none");
    HeldTillSet x = loose(3);
    due.is("none", x.back(), STATE);
    x.fit(0);
    x.chair();
    x.undo();
    due.is("none yet", x.back(), STATE);
    due.promise(31);
    due.is("an image", x.image(), 1);
    x.fit(1);
    x.stay(5);
    due.promise(32);
    for (int times = 0; times < 3; times++) {
      due.is("laid back, once and again", x.back(), 1);
      due.is("fitted", x.of(0, 12), 0);
      x.stay(9);
      x.fit(2);
    }
    due.is("a later one", x.image(), 11);
    x.chair();
    x.stay(1);
    due.is("the later one is laid back", x.back(), 11);
    due.is("fitted", x.of(0, 12), 4);
    HeldTillSet y = new HeldTillSet();
    due.is("of an empty bench", y.image(), 0);
    y.stay(7);
    due.is("back to minute 0", y.back(), 0);
    HeldTillSet z = loose(7);
    z.image();
    for (int j = 0; j < 7; j++) {
      z.fit(j);
    }
    z.back();
    due.is("none of seven", z.of(0, 12), 0);
    for (int j = 6; j >= 0; j--) {
      z.fit(j);
    }
    z.image();
    z.chair();
    z.back();
    due.is("all of seven", z.of(0, 12), 127);
    due.is("how many", z.chair(), 7);
    till(z, 9999);
    z.back();
    due.is("waiting is free again", z.stay(999), 1006);
  }

  private static void imageKeepsLed() {
    due.promise(32);
    due.says("AN IMAGE keeps NOW and what LED tells");
    HeldTillSet x = loose(3);
    x.mend(2, 4, 64);
    x.fit(0);
    x.fit(2);
    x.stay(3);
    x.chair();
    x.image();
    x.fit(0);
    x.fit(1);
    x.fit(2);
    x.fit(2);
    x.stay(40);
    x.chair();
    x.chair();
    int[] then = {3, 3, 43, 3, 46};
    int[] kept = {1, 1, 3, 1, 4};
    for (int what = 0; what <= 4; what++) {
      due.is("led(" + what + ") ahead of it", x.led(what), then[what]);
    }
    x.back();
    for (int what = 0; what <= 4; what++) {
      due.is("led(" + what + ")", x.led(what), kept[what]);
    }
    x.fit(2);
    due.is("counted on", x.led(1), 2);
  }

  private static void imageKeepsWhatIsHeld() {
    due.promise(32);
    due.says("AN IMAGE keeps what is fitted, when it sets, how it is held");
    for (int clamps = 0; clamps <= 1; clamps++) {
      HeldTillSet x = heavy();
      x.mend(0, 3, 1);
      x.mend(1, 3, 1);
      x.mend(0, 7, clamps);
      x.fit(0);
      x.image();
      x.mend(0, 7, 1 - clamps);
      x.chair();
      x.fit(1);
      x.fit(0);
      x.stay(30);
      x.back();
      x.mend(0, 7, 0);
      due.is("held by " + (clamps == 1 ? "the clamp" : "hands"), x.fit(1), clamps == 1 ? 2 : NOT);
      x.back();
      x.mend(0, 7, 1);
      x.mend(1, 2, 1);
      due.is("the clamp is " + (clamps == 1 ? "taken, hands are free" : "free"), x.fit(1), 2);
      x.back();
      x.mend(0, 6, 0);
      x.mend(1, 1, 1);
      due.is("a hand is free " + (clamps == 1 ? "at once" : "in 11"), x.fit(1), clamps == 1 ? 2 : 12);
    }
    HeldTillSet x = heavy();
    x.mend(0, 3, 1);
    x.mend(1, 3, 1);
    x.mend(0, 7, 1);
    x.joint(1, 1);
    x.mend(2, 2, 0);
    x.fit(0);
    x.image();
    x.chair();
    x.fit(2);
    x.back();
    x.fit(1);
    due.is("the clamp holds 0, two hands hold 1 till 12", x.fit(2), 13);
    for (int j = 0; j < 2; j++) {
      x.back();
      Due.law(x, "50");
      due.is("set by the law as it was", x.test(0), 0);
      x.stay(9);
      due.is("not in 10", x.test(0), 0);
      x.stay(1);
      due.is("in 11", x.test(0), 1);
    }
  }

  private static void imageKeepsNoNumbers() {
    due.promise(32);
    due.says("AN IMAGE keeps NOW, what is fitted, when it sets, how it is held, what LED tells: nothing else");
    HeldTillSet x = loose(2);
    x.image();
    x.mend(0, 0, 9);
    x.mend(0, 8, 1);
    x.feed('1');
    x.body(0);
    x.act(0, 3, 1);
    Due.bytes(x, 0, 1, 0);
    x.back();
    due.is("FITS", x.of(0, 0), 9);
    due.is("GLUE", x.of(0, 8), 1);
    due.is("changes", x.count(2), 4);
    due.is("the tape", x.count(1), 1);
    due.is("bodies", x.count(3), 1);
    due.is("the trace", x.trace(0), 2);
    due.is("the shelf", x.element(0, 0), 1);
    due.is("undone", x.undo(), 3);
    x.back();
    due.is("done again", x.redo(), 0);
    due.is("GLUE", x.of(0, 8), 1);
  }

  private static void jointsThatCameSince() {
    due.promise(32);
    due.says("JOINTS that came since are not fitted");
    for (int there = 0; there < 7; there++) {
      HeldTillSet x = loose(there);
      for (int j = 0; j < there; j++) {
        x.fit(j);
      }
      x.image();
      x.joint(1, 0);
      x.mend(there, 2, 0);
      x.fit(there);
      due.is("fitted", x.of(0, 12), (2 << there) - 1);
      due.is("back", x.back(), there);
      due.is("not fitted", x.test(there), STATE);
      due.is("the others are", x.of(0, 12), (1 << there) - 1);
      due.is("it is there", x.count(0), there + 1);
      due.is("fitted again", x.fit(there), there + 1);
    }
  }

  private static void undoOneByOne() {
    due.promise(33);
    due.says("UNDONE, the latest first: how many may still be. STATE: none");
    HeldTillSet x = loose(0);
    due.is("none", x.undo(), STATE);
    x.joint(5, 2);
    due.is("a joint is none", x.undo(), STATE);
    int[] least = {1, 0, 0, 0, 2, 2, 1, 1, 1, 1, 1};
    int[] first = {5, 2, 1, 1, 0, 0, 0, 0, 10, 20, 0};
    for (int what = 0; what <= 10; what++) {
      due.is("what " + what, x.mend(0, what, least[what]), first[what]);
      due.is("that may be", x.count(2), what + 1);
    }
    for (int what = 10; what >= 0; what--) {
      due.is("its number as told", x.of(0, what), least[what]);
      due.is("undo", x.undo(), what);
      due.is("as it was", x.of(0, what), first[what]);
      due.is("that may be", x.count(2), what);
    }
    due.is("none any more", x.undo(), STATE);
    due.is("none any more", x.count(2), 0);
    HeldTillSet y = loose(1);
    int changes = y.count(2);
    y.mend(0, 0, 2);
    y.mend(0, 0, 3);
    y.mend(0, 0, 2);
    due.is("three of one number", y.undo(), changes + 2);
    due.is("back to 3", y.of(0, 0), 3);
    due.is("two", y.undo(), changes + 1);
    due.is("back to 2", y.of(0, 0), 2);
    due.is("one", y.undo(), changes);
    due.is("back to 1", y.of(0, 0), 1);
  }

  private static void undoForty() {
    due.promise(33);
    due.says("40 at most are kept");
    for (int changes : new int[] {39, 40, 41, 42, 80, 89}) {
      HeldTillSet x = new HeldTillSet();
      for (int i = 1; i <= changes; i++) {
        x.mend(0, 8, 10 + i);
      }
      int kept = Math.min(40, changes);
      due.is("of " + changes, x.count(2), kept);
      for (int i = kept - 1; i >= 0; i--) {
        due.is("undo", x.undo(), i);
        due.is("GLUE", x.of(0, 8), 10 + changes - kept + i);
      }
      due.is("no more", x.undo(), STATE);
    }
  }

  private static void toldTheSame() {
    due.promise(33);
    due.says("telling the same number is none");
    HeldTillSet x = new HeldTillSet();
    x.joint(5, 2);
    int[] first = {5, 2, 1, 1, 0, 0, 0, 0, 10, 20, 0};
    for (int what = 0; what <= 10; what++) {
      due.is("the same, what " + what, x.mend(0, what, first[what]), first[what]);
      due.is("no change", x.count(2), 0);
    }
    due.is("none to undo", x.undo(), STATE);
    x.mend(0, 7, 3);
    x.mend(0, 7, 3);
    due.is("one", x.count(2), 1);
    x.undo();
    x.mend(0, 7, 0);
    due.is("the same as it is now", x.count(2), 0);
    due.is("done again all the same", x.redo(), 0);
    due.is("CLAMPS", x.of(0, 7), 3);
  }

  private static void whatIsNoChange() {
    due.promise(33);
    due.says("CHANGES (all numbers of mend()); deeds are none");
    HeldTillSet x = loose(2);
    int changes = x.count(2);
    x.mend(0, 6, 1);
    x.mend(0, 6, 2);
    x.undo();
    x.mend(0, 6, 4);
    x.mend(1, 6, 1);
    x.mend(9, 0, 1);
    x.joint(1, 1);
    Due.bytes(x, 0, 1, 1, 1);
    x.joints(0, 0, 1);
    Due.law(x, "7");
    x.feed('1');
    x.fit(0);
    x.stay(5);
    x.image();
    x.chair();
    x.back();
    x.body(0);
    x.act(0, 0, 0);
    x.keep(1, 0);
    x.shift(0, 0, 0, 1, 2);
    due.is("none of these is a change", x.count(2), changes + 1);
    due.is("nor comes behind one that was undone", x.redo(), 0);
    due.is("MEN", x.of(0, 6), 2);
    due.is("undone", x.undo(), changes + 1);
    due.is("undone", x.undo(), changes);
    due.is("a law is not undone", x.sets(0), 7);
    due.is("nor a joint", x.count(0), 4);
    due.is("nor a deed", x.of(0, 12), 1);
  }

  private static void redoInTurn() {
    due.promise(34);
    due.says("DONE AGAIN: how many may still be. STATE: none");
    HeldTillSet x = new HeldTillSet();
    due.is("none", x.redo(), STATE);
    for (int glue = 11; glue <= 15; glue++) {
      x.mend(0, 8, glue);
    }
    due.is("nothing is undone", x.redo(), STATE);
    for (int undone = 0; undone <= 5; undone++) {
      for (int i = 0; i < undone; i++) {
        due.is("undo", x.undo(), 4 - i);
      }
      due.is("GLUE", x.of(0, 8), 15 - undone);
      for (int i = undone - 1; i >= 0; i--) {
        due.is("redo", x.redo(), i);
        due.is("GLUE", x.of(0, 8), 15 - i);
        due.is("may be undone", x.count(2), 5 - i);
      }
      due.is("no more", x.redo(), STATE);
      due.is("GLUE", x.of(0, 8), 15);
    }
  }

  private static void redoForty() {
    due.promise(34);
    due.says("40 at most are kept");
    HeldTillSet x = new HeldTillSet();
    for (int glue = 11; glue <= 55; glue++) {
      x.mend(0, 8, glue);
    }
    for (int times = 0; times < 2; times++) {
      for (int i = 39; i >= 0; i--) {
        due.is("undo", x.undo(), i);
      }
      due.is("GLUE", x.of(0, 8), 15);
      for (int i = 39; i >= 0; i--) {
        due.is("redo", x.redo(), i);
        due.is("GLUE", x.of(0, 8), 55 - i);
      }
      due.is("no more", x.redo(), STATE);
    }
    x.undo();
    x.undo();
    x.mend(0, 8, 7);
    due.is("forty less two, and one", x.count(2), 39);
    due.is("none again", x.redo(), STATE);
    x.mend(0, 8, 8);
    x.mend(0, 8, 9);
    due.is("forty", x.count(2), 40);
    for (int i = 0; i < 40; i++) {
      x.undo();
    }
    due.is("the two oldest are dropped with it", x.of(0, 8), 16);
  }

  private static void redoNoMore() {
    due.promise(34);
    due.says("as long as no other came behind");
    for (int undone = 1; undone <= 5; undone++) {
      HeldTillSet x = new HeldTillSet();
      for (int glue = 11; glue <= 15; glue++) {
        x.mend(0, 8, glue);
      }
      for (int i = 0; i < undone; i++) {
        x.undo();
      }
      due.is("the same number", x.mend(0, 8, 15 - undone), 15 - undone);
      due.is("one that may not be", x.mend(0, 8, 100), BAD);
      due.is("neither came behind", x.redo(), undone - 1);
      x.undo();
      x.mend(0, 9, 0);
      due.is("another came behind", x.redo(), STATE);
      due.is("may be undone", x.count(2), 6 - undone);
      due.is("it is undone", x.undo(), 5 - undone);
      due.is("WARM", x.of(0, 9), 20);
      due.is("it alone is done again", x.redo(), 0);
      due.is("GLUE", x.of(0, 8), 15 - undone);
    }
  }
}
