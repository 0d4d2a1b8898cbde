/** Promises 1 to 8: a new object, joints, their numbers, the law. */
public final class JointsTest {
  private static final int BAD = -1, FULL = -3;
  private static final Due due = new Due("JointsTest");

  public static void main(String[] args) {
    newObject();
    joint();
    joints();
    mend();
    of();
    feed();
    lawFaults();
    lawKeepsAndClears();
    setsByDefault();
    setsByText();
    setsBad();
    due.end();
  }

  private static void newObject() {
    due.promise(1);
    HeldTillSet x = new HeldTillSet();
    for (int what = 0; what <= 4; what++) {
      due.is("count(" + what + ")", x.count(what), 0);
      due.is("led(" + what + ")", x.led(what), 0);
    }
    int[] first = {0, 0, 10, 20, 0, 0, 0};
    for (int what = 6; what <= 12; what++) {
      due.is("of(0, " + what + ")", x.of(0, what), first[what - 6]);
    }
    for (int shelf = 0; shelf < 6; shelf++) {
      due.is("taken", x.taken(shelf, 0), -11);
      due.is("put", x.put(shelf, 0, 1), -11);
    }
    due.is("of(0, 0)", x.of(0, 0), BAD);
    due.is("back", x.back(), -5);
    HeldTillSet y = new HeldTillSet();
    x.joint(3, 1);
    due.is("another object's joints", y.count(0), 0);
  }

  private static void joint() {
    due.promise(2);
    HeldTillSet x = new HeldTillSet();
    int[][] bad = {{0, 0}, {10, 0}, {1, -1}, {1, 4}, {-5, 2}, {Integer.MAX_VALUE, 2}, {1, Integer.MIN_VALUE}};
    for (int[] b : bad) {
      due.is("joint(" + b[0] + ", " + b[1] + ")", x.joint(b[0], b[1]), BAD);
    }
    due.is("count(0)", x.count(0), 0);
    due.is("joint(1, 0)", x.joint(1, 0), 0);
    due.is("joint(9, 3)", x.joint(9, 3), 1);
    int[] want = {9, 3, 1, 1, 0, 0};
    for (int what = 0; what <= 5; what++) {
      due.is("of(1, " + what + ")", x.of(1, what), want[what]);
    }
    for (int j = 2; j < 7; j++) {
      due.is("joint(2, 2)", x.joint(2, 2), j);
    }
    due.is("an eighth", x.joint(2, 2), FULL);
    due.is("bad ahead of full", x.joint(0, 2), BAD);
    due.is("count(0)", x.count(0), 7);
    due.is("a joint is no change", x.count(2), 0);
  }

  private static void joints() {
    due.promise(3);
    HeldTillSet x = new HeldTillSet();
    due.is("a missing row", x.joints(0, 0, 1), 0);
    due.is("a missing row, i below 0", x.joints(0, -1, 1), 0);
    Due.bytes(x, 0, 5, 1, 2, 3, 0, 0, 1, 3, 3, 2, 2);
    due.is("i below 0", x.joints(0, -1, 1), 0);
    due.is("the least i", x.joints(0, Integer.MIN_VALUE, 7), 0);
    due.is("the greatest i", x.joints(0, Integer.MAX_VALUE, 7), 0);
    due.is("i at the end", x.joints(0, 11, 1), 0);
    due.is("the row ends within a three", x.joints(0, 9, 1), 0);
    due.is("HELD 3 is not as it may be: those ahead came", x.joints(0, 0, 7), 2);
    int[] want = {5, 1, 2, 1, 0, 0};
    for (int what = 0; what <= 5; what++) {
      due.is("of(0, " + what + ")", x.of(0, what), want[what]);
    }
    due.is("of(1, 2)", x.of(1, 2), 0);
    due.is("n of them", x.joints(0, 0, 1), 1);
    due.is("count(0)", x.count(0), 3);
    Due.bytes(x, 1, 1, 1, 1, 2, 2, 2, 3, 3, 2, 4, 0, 0, 5, 1, 1, 6);
    due.is("till full", x.joints(1, 0, 7), 4);
    due.is("of(6, 0)", x.of(6, 0), 4);
    due.is("full", x.joints(1, 0, 1), 0);
    due.is("n 0", x.joints(1, 0, 0), BAD);
    due.is("n 8", x.joints(1, 0, 8), BAD);
    due.is("shelf -1", x.joints(-1, 0, 1), BAD);
    due.is("shelf 6", x.joints(6, 0, 1), BAD);
    x.body(0);
    x.keep(2, 0);
    due.is("a body", x.joints(2, 0, 1), -12);
    due.is("a body, i below 0", x.joints(2, -1, 1), -12);
    for (int sort = 1; sort <= 4; sort++) {
      x.row(2, sort, 3);
      due.is("a row of sort " + sort, x.joints(2, 0, 1), -12);
    }
    due.is("bad ahead of -12", x.joints(2, 0, 0), BAD);
    HeldTillSet z = new HeldTillSet();
    Due.bytes(z, 0, 7, 1, 2, 8, 3, 0);
    due.is("up to the row's very end", z.joints(0, 0, 3), 2);
    due.is("the last three", z.joints(0, 3, 1), 1);
    due.is("a three that lacks one", z.joints(0, 4, 1), 0);
    HeldTillSet y = new HeldTillSet();
    Due.bytes(y, 0, 0, 1, 1, 1, -1, 0, 1, 4, 0, 1, 1, -1, 10, 1, 1);
    for (int i = 0; i < 15; i += 3) {
      due.is("not as it may be, at " + i, y.joints(0, i, 1), 0);
    }
  }

  private static void mend() {
    due.promise(4);
    HeldTillSet x = new HeldTillSet();
    x.joint(5, 2);
    x.joint(5, 2);
    int[] least = {1, 0, 0, 0, 0, 0, 0, 0, 0, 0, 0};
    int[] most = {9, 3, 2, 1, 127, 127, 3, 6, 99, 30, 12};
    int[] first = {5, 2, 1, 1, 0, 0, 0, 0, 10, 20, 0};
    for (int what = 0; what <= 10; what++) {
      int own = what == 4 || what == 5 ? 1 : 0;
      int top = most[what] - own;
      due.is("below, what " + what, x.mend(0, what, least[what] - 1), BAD);
      due.is("above, what " + what, x.mend(0, what, most[what] + 1), BAD);
      due.is("far below, what " + what, x.mend(0, what, Integer.MIN_VALUE), BAD);
      due.is("far above, what " + what, x.mend(0, what, Integer.MAX_VALUE), BAD);
      due.is("no joint, what " + what, x.mend(2, what, least[what]), BAD);
      due.is("joint -1, what " + what, x.mend(-1, what, least[what]), BAD);
      due.is("unchanged, what " + what, x.of(0, what), first[what]);
      due.is("top, what " + what, x.mend(0, what, top), first[what]);
      due.is("of, what " + what, x.of(0, what), top);
      due.is("least, what " + what, x.mend(0, what, least[what]), top);
      due.is("the same, what " + what, x.mend(0, what, least[what]), least[what]);
    }
    for (int what = 6; what <= 10; what++) {
      due.is("number 1, what " + what, x.mend(1, what, 1), BAD);
    }
    due.is("what -1", x.mend(0, -1, 1), BAD);
    due.is("what 11", x.mend(0, 11, 1), BAD);
    due.is("its own need", x.mend(1, 4, 2), BAD);
    due.is("its own among others", x.mend(1, 5, 127), BAD);
    due.is("needs none there yet", x.mend(1, 4, 125), 0);
    due.is("sprung none there yet", x.mend(1, 5, 125), 0);
    due.is("another joint's numbers", x.of(0, 4), 0);
  }

  private static void of() {
    due.promise(5);
    HeldTillSet x = new HeldTillSet();
    x.joint(3, 1);
    x.joint(4, 0);
    due.is("of(1, 0)", x.of(1, 0), 4);
    due.is("of(2, 0)", x.of(2, 0), BAD);
    due.is("of(-1, 0)", x.of(-1, 0), BAD);
    due.is("of(0, -1)", x.of(0, -1), BAD);
    due.is("of(0, 13)", x.of(0, 13), BAD);
    for (int what = 6; what <= 12; what++) {
      due.is("of(1, " + what + ")", x.of(1, what), BAD);
    }
    x.fit(1);
    due.is("NOW", x.of(0, 11), 4);
    due.is("fitted", x.of(0, 12), 2);
    x.stay(3);
    x.fit(0);
    due.is("NOW", x.of(0, 11), 10);
    due.is("fitted", x.of(0, 12), 3);
  }

  private static void feed() {
    due.promise(6);
    HeldTillSet x = new HeldTillSet();
    due.is("feed(-1)", x.feed(-1), BAD);
    due.is("feed(256)", x.feed(256), BAD);
    due.is("feed(0)", x.feed(0), 1);
    due.is("feed(255)", x.feed(255), 2);
    for (int i = 3; i <= 120; i++) {
      due.is("feed", x.feed('1'), i);
    }
    due.is("full", x.feed('1'), FULL);
    due.is("bad ahead of full", x.feed(-1), BAD);
    due.is("count(1)", x.count(1), 120);
    due.is("law", x.law(), -100);
    due.is("count(1)", x.count(1), 0);
    due.is("feed", x.feed('1'), 1);
  }

  private static void lawFaults() {
    due.promise(7);
    String[] texts = {"", "1", "g", "w", "f", "h", "n", "k", "1;", "12345", "9999", "1?2?3", "(1?2)", "1<2<3", "1<2=3",
      "(1<2)<3", "1<(2<3)", "((((((1))))))", "(((((((1)))))))", "------1", "-------1", "!!!!!!g", "!!!!!!!g",
      "!(-(!(1", "!(-(!(-1", "(-(-(-(1", "1 ", "x", "g w", "1+", "()", "1)", ";1", "?1", "1?", "1?2;3", "1?2;", "1;;2", "1g", "g1",
      "1+*2", "1--1", "1-!1", "1!1", "(1", "(1+2", "(12345)", "1|2&3<4+5*6", "1==2", "1||2", "G", "1&&2", "1?(2", "+1",
      "((((((1))))))+((((((g))))))", "(((((-1)))))", "((((((-1))))))", "1;2?3;4", "g?w?f", "00000", "0000;0"};
    int[] want = {-100, 1, 1, 1, 1, 1, 1, 1, -102, -104, 1, -103, -102, -103, -103,
      1, 1, 1, -106, 1, -106, 1, -106,
      -107, -106, -106, -101, -100, -101, -102, -101, -101, -100, -100, -102, 1, -104, -102, -101, -101,
      -102, 1, 1, -101, -102, -104, -105, 1, -102, -102, -100, -102, -104, -100,
      1, 1, -106, 1, -103, -104, 1};
    for (int i = 0; i < texts.length; i++) {
      HeldTillSet x = new HeldTillSet();
      due.is("law of " + texts[i], Due.law(x, texts[i]), want[i]);
      due.is("the tape behind it", x.count(1), 0);
    }
    StringBuilder longest = new StringBuilder("1");
    for (int i = 0; i < 59; i++) {
      longest.append("+1");
    }
    HeldTillSet x = new HeldTillSet();
    x.joint(1, 0);
    due.is("a law of 119 bytes", Due.law(x, longest.toString()), 1);
    due.is("sets", x.sets(0), 60);
    due.is("120 bytes that end too early", Due.law(x, longest + "+"), -220);
    due.is("120 bytes", Due.law(x, longest + "2"), 1);
    due.is("sets", x.sets(0), 71);
    StringBuilder lines = new StringBuilder();
    for (int i = 0; i < 29; i++) {
      lines.append("0?1;");
    }
    due.is("30 lines", Due.law(x, lines + "1?42"), 1);
    due.is("sets", x.sets(0), 42);
    x.feed('1');
    x.feed(233);
    due.is("a byte above 127", x.law(), -101);
    x.feed(0);
    due.is("a byte 0", x.law(), -100);
  }

  private static void lawKeepsAndClears() {
    due.promise(7);
    HeldTillSet x = new HeldTillSet();
    x.joint(1, 1);
    due.is("a fault ahead of any law", Due.law(x, "7?"), -102);
    due.is("sets", x.sets(0), 10);
    due.is("law", Due.law(x, "7"), 1);
    due.is("sets", x.sets(0), 7);
    due.is("a fault", Due.law(x, "8+9+"), -104);
    due.is("sets as before", x.sets(0), 7);
    due.is("another law", Due.law(x, "8+1"), 1);
    due.is("sets", x.sets(0), 9);
    due.is("an empty tape", x.law(), -100);
    due.is("sets as before", x.sets(0), 9);
    due.is("a law is no change", x.count(2), 0);
  }

  private static void setsByDefault() {
    due.promise(8);
    HeldTillSet x = new HeldTillSet();
    x.joint(1, 1);
    due.is("30 - 10 - 10", x.sets(0), 10);
    x.mend(0, 9, 21);
    due.is("cut", x.sets(7), 10);
    x.mend(0, 9, 0);
    x.mend(0, 8, 0);
    due.is("cold and slow", x.sets(0), 30);
    x.mend(0, 8, 29);
    due.is("1 minute", x.sets(0), 1);
    x.mend(0, 8, 30);
    due.is("1 at least", x.sets(0), 1);
    x.mend(0, 8, 99);
    due.is("1 at least", x.sets(0), 1);
  }

  private static void setsByText() {
    due.promise(8);
    String[] texts = {"g*w", "-5", "7/0", "7%0", "-7/2+10", "-7%4+10", "2+3*4", "(2+3)*4", "10-3-2", "1|0&0", "!5+1", "!0+1",
      "3<4", "4<4", "4=4", "4=5", "5>4", "4>4", "0?5", "0?5;7", "1?5;7", "-1?5;7", "0?1;0?2", "g>9?11;22", "g>10?11;22",
      "f", "h", "n", "k", "k*20+n*4+f+h", "9999*9999*30<0", "7&2", "7&0", "0|0", "0|9", "2+3<4+5", "1<2&3>2", "48/5/2",
      "48%5*2", "2*7%4", "--5", "!!5", "-!0+5", "!-5+3", "1+2=3", "99", "100", "98+1", "0?1;0", "w-g", "0-1", "1|1/0", "(1;"};
    int[] want = {99, 0, 0, 0, 7, 7, 14, 20, 5, 1, 1, 2,
      1, 0, 1, 0, 1, 0, 0, 7, 5, 5, 0, 11, 22,
      4, 2, 3, 1, 38, 1, 1, 0, 0, 1, 1, 1, 4,
      6, 2, 5, 1, 4, 3, 1, 99, 99, 99, 0, 10, 0, 1, 1};
    HeldTillSet x = new HeldTillSet();
    x.joint(1, 0);
    x.joint(4, 0);
    x.mend(1, 2, 2);
    for (int i = 0; i < texts.length; i++) {
      Due.law(x, texts[i]);
      due.is("sets(13) by " + texts[i], x.sets(13), want[i]);
    }
    Due.law(x, "g*10+w");
    x.mend(0, 8, 3);
    x.mend(0, 9, 4);
    due.is("the law as the numbers are now", x.sets(0), 34);
  }

  private static void setsBad() {
    due.promise(8);
    HeldTillSet x = new HeldTillSet();
    due.is("no joint", x.sets(0), BAD);
    x.joint(1, 1);
    due.is("n 0", x.sets(0), 10);
    due.is("n 7", x.sets(7), 10);
    due.is("n 8", x.sets(8), BAD);
    due.is("n 9", x.sets(9), BAD);
    due.is("joint 1", x.sets(10), BAD);
    due.is("below 0", x.sets(-1), BAD);
    due.is("the least int", x.sets(Integer.MIN_VALUE), BAD);
    due.is("the greatest int", x.sets(Integer.MAX_VALUE), BAD);
  }
}
