/** Each edge that the document names for promises 1 to 8: numbers of joints, the tape, the law. */
public final class EdgesJointsTest {
  private static final int BAD = -1, FULL = -3;
  private static final int MIN = Integer.MIN_VALUE, MAX = Integer.MAX_VALUE;
  private static final Due due = new Due("EdgesJointsTest");

  public static void main(String[] args) {
    answers();
    nothingAtFirst();
    jointsAsTheyCome();
    fitsAndHandsOfAJoint();
    numbersOfAJoint();
    bitsOfAJoint();
    numbersThatStandOnce();
    anotherNumberForThese();
    whatItWas();
    placesOfARow();
    howManyOfARow();
    threesThatMayNotBe();
    fullFromARow();
    of();
    bytesOfTheTape();
    tapeIsFull();
    tapeIsEmptyThen();
    firstByte();
    byteBehind();
    digits();
    openAtOnce();
    wholeTape();
    lines();
    signs();
    intsThatWrap();
    towardNought();
    heldWithin();
    names();
    withoutAText();
    joint0To6AndN0To7();
    due.end();
  }

  private static HeldTillSet joints(int n) {
    HeldTillSet x = new HeldTillSet();
    for (int j = 0; j < n; j++) {
      x.joint(1, 1);
    }
    return x;
  }

  private static void answers() {
    due.promise(1);
    due.says("Answers: BAD (-1), NOT (-2), FULL (-3), STATE (-5); VOID is -2000000000");
    due.is("BAD", HeldTillSet.BAD, -1);
    due.is("NOT", HeldTillSet.NOT, -2);
    due.is("FULL", HeldTillSet.FULL, -3);
    due.is("STATE", HeldTillSet.STATE, -5);
    due.is("VOID", HeldTillSet.VOID, -2000000000);
  }

  private static void nothingAtFirst() {
    due.promise(1);
    due.says("A bench, glue, no joints");
    HeldTillSet x = new HeldTillSet();
    due.is("joints", x.count(0), 0);
    due.is("bytes on the tape", x.count(1), 0);
    due.is("changes", x.count(2), 0);
    due.is("bodies", x.count(3), 0);
    due.is("bodies that ran", x.count(4), 0);
    due.is("NOW", x.of(0, 11), 0);
    due.is("fitted", x.of(0, 12), 0);
    due.is("the first joint's FITS", x.of(0, 0), BAD);
    due.is("no image", x.back(), -5);
    due.is("no trace", x.trace(0), BAD);
    due.is("nothing to undo", x.undo(), -5);
    due.is("nothing to do again", x.redo(), -5);
    for (int shelf = 0; shelf <= 5; shelf++) {
      due.is("shelf " + shelf + " holds nothing", x.taken(shelf, 0), -11);
    }
    for (int what = 0; what <= 4; what++) {
      due.is("led(" + what + ")", x.led(what), 0);
    }
    due.is("the only order, of none", x.can(1), 1);
  }

  private static void jointsAsTheyCome() {
    due.promise(2);
    due.says("JOINTS 0 .. 6, as they come; FULL: 7");
    HeldTillSet x = new HeldTillSet();
    for (int j = 0; j < 7; j++) {
      due.is("a bad one takes no number", x.joint(0, 0), BAD);
      due.is("how many", x.count(0), j);
      due.is("its number", x.joint(j + 1, j % 4), j);
    }
    due.is("an eighth", x.joint(1, 1), FULL);
    due.is("an eighth, of the least", x.joint(1, 0), FULL);
    due.is("an eighth, of the greatest", x.joint(9, 3), FULL);
    due.is("how many", x.count(0), 7);
    for (int j = 0; j < 7; j++) {
      due.is("FITS of " + j, x.of(j, 0), j + 1);
      due.is("HANDS of " + j, x.of(j, 1), j % 4);
    }
    due.is("a joint 7", x.of(7, 0), BAD);
  }

  private static void fitsAndHandsOfAJoint() {
    due.promise(2);
    for (int fits : new int[] {MIN, -1, 0, 10, 11, 256 + 5, MAX}) {
      due.says("FITS (1 .. 9 minutes to fit it)");
      due.is("FITS " + fits, new HeldTillSet().joint(fits, 2), BAD);
    }
    for (int hands : new int[] {MIN, -1, 4, 5, 256 + 2, MAX}) {
      due.says("HANDS (0 .. 3 that fitting it takes)");
      due.is("HANDS " + hands, new HeldTillSet().joint(5, hands), BAD);
    }
    for (int fits = 1; fits <= 9; fits++) {
      for (int hands = 0; hands <= 3; hands++) {
        HeldTillSet x = new HeldTillSet();
        due.is("joint(" + fits + ", " + hands + ")", x.joint(fits, hands), 0);
        due.is("FITS", x.of(0, 0), fits);
        due.is("HANDS", x.of(0, 1), hands);
      }
    }
  }

  /** The last that are allowed, the first that are not, on both sides, and the ends of an int. */
  private static void bound(int number, int what, int first, int least, int most) {
    HeldTillSet x = joints(2);
    due.is("at first", x.of(number, what), first);
    for (int v : new int[] {least - 1, most + 1, MIN, MAX}) {
      due.is("becomes " + v, x.mend(number, what, v), BAD);
      due.is("what it is then", x.of(number, what), first);
    }
    int was = first;
    for (int v = least; v <= most; v++) {
      due.is("becomes " + v, x.mend(number, what, v), was);
      due.is("what it is then", x.of(number, what), v);
      was = v;
    }
    due.is("beyond the most", x.mend(number, what, most + 1), BAD);
    due.is("the least again", x.mend(number, what, least), most);
    due.is("below the least", x.mend(number, what, least - 1), BAD);
    due.is("what it is then", x.of(number, what), least);
  }

  private static void numbersOfAJoint() {
    due.promise(4);
    for (int number = 0; number <= 1; number++) {
      due.says("FITS (1 .. 9)");
      bound(number, 0, 1, 1, 9);
      due.says("HANDS (0 .. 3)");
      bound(number, 1, 1, 0, 3);
      due.says("HELD (0 .. 2; 1 at first)");
      bound(number, 2, 1, 0, 2);
      due.says("CLAMPED (0, 1; 1 at first)");
      bound(number, 3, 1, 0, 1);
    }
  }

  private static void bitsOfAJoint() {
    due.promise(4);
    due.says("NEEDS, SPRUNG: bits 0 .. 127, not its own; 0 at first");
    for (int what = 4; what <= 5; what++) {
      HeldTillSet x = joints(7);
      for (int j = 0; j < 7; j++) {
        int all = 127 - (1 << j);
        due.is("at first", x.of(j, what), 0);
        for (int v : new int[] {-1, 128, MIN, MAX, 1 << j, 127, 128 + all}) {
          due.is("joint " + j + ", " + v, x.mend(j, what, v), BAD);
        }
        due.is("as it was", x.of(j, what), 0);
        due.is("all others", x.mend(j, what, all), 0);
        due.is("none", x.mend(j, what, 0), all);
      }
      HeldTillSet y = joints(1);
      due.is("of joints that are not there yet", y.mend(0, what, 126), 0);
      due.is("as told", y.of(0, what), 126);
      due.is("with its own", y.mend(0, what, 127), BAD);
      for (int v = 0; v <= 127; v++) {
        due.is("becomes " + v, joints(1).mend(0, what, v), v % 2 == 1 ? BAD : 0);
      }
    }
  }

  private static void numbersThatStandOnce() {
    due.promise(4);
    due.says("MEN (0 .. 3 others; 0 at first)");
    bound(0, 6, 0, 0, 3);
    due.says("CLAMPS (0 .. 6; 0 at first)");
    bound(0, 7, 0, 0, 6);
    due.says("GLUE (0 .. 99; 10 at first)");
    bound(0, 8, 10, 0, 99);
    due.says("WARM (0 .. 30; 20 at first)");
    bound(0, 9, 20, 0, 30);
    due.says("SLIPS (0 .. 12; 0 at first)");
    bound(0, 10, 0, 0, 12);
  }

  private static void anotherNumberForThese() {
    due.promise(4);
    due.says("number 0 for these, another: BAD");
    HeldTillSet x = joints(7);
    for (int what = 6; what <= 10; what++) {
      for (int number : new int[] {-1, 1, 6, 7, MIN, MAX}) {
        due.is("mend(" + number + ", " + what + ", 1)", x.mend(number, what, 1), BAD);
      }
    }
    due.says("of a JOINT; BAD");
    for (int what = 0; what <= 5; what++) {
      for (int number : new int[] {-1, 7, 8, MIN, MAX}) {
        due.is("mend(" + number + ", " + what + ", 1)", x.mend(number, what, 1), BAD);
      }
      due.is("the first joint that is not there", joints(3).mend(3, what, 1), BAD);
      due.is("no joints", joints(0).mend(0, what, 1), BAD);
    }
    for (int what : new int[] {-1, 11, 12, 13, MIN, MAX}) {
      due.is("mend(0, " + what + ", 1)", x.mend(0, what, 1), BAD);
    }
    due.says("number 0 for these");
    for (int what = 6; what <= 10; what++) {
      due.is("without a joint", joints(0).mend(0, what, 1), what == 8 ? 10 : what == 9 ? 20 : 0);
    }
    due.is("none of these was a change", x.count(2), 0);
  }

  private static void whatItWas() {
    due.promise(4);
    due.says("becomes v: what it was");
    HeldTillSet x = joints(2);
    due.is("FITS", x.mend(1, 0, 7), 1);
    due.is("FITS again", x.mend(1, 0, 7), 7);
    due.is("FITS back", x.mend(1, 0, 1), 7);
    int[] values = {9, 3, 2, 0, 125, 124};
    int[] first = {1, 1, 1, 1, 0, 0};
    for (int what = 0; what <= 5; what++) {
      due.is("what " + what, x.mend(1, what, values[what]), first[what]);
    }
    for (int what = 0; what <= 5; what++) {
      due.is("as told, what " + what, x.of(1, what), values[what]);
      due.is("the other joint's, what " + what, x.of(0, what), first[what]);
    }
  }

  private static void placesOfARow() {
    due.promise(3);
    due.says("a SHELF; BAD");
    for (int shelf : new int[] {MIN, -1, 6, 7, MAX}) {
      due.is("shelf " + shelf, new HeldTillSet().joints(shelf, 0, 1), BAD);
    }
    for (int shelf = 0; shelf <= 5; shelf++) {
      HeldTillSet x = new HeldTillSet();
      Due.bytes(x, shelf, 1, 1, 1);
      due.is("shelf " + shelf, x.joints(shelf, 0, 1), 1);
    }
    due.says("from place i on; 0 with i below 0");
    long[] row = new long[60];
    java.util.Arrays.fill(row, 2);
    row[0] = 9;
    row[57] = 3;
    int[] places = {MIN, -3, -1, 0, 1, 56, 57, 58, 59, 60, 61, MAX - 2, MAX};
    int[] came = {0, 0, 0, 1, 1, 1, 1, 0, 0, 0, 0, 0, 0};
    for (int i = 0; i < places.length; i++) {
      HeldTillSet x = new HeldTillSet();
      Due.bytes(x, 0, row);
      due.is("from place " + places[i], x.joints(0, places[i], 1), came[i]);
      due.is("how many there are", x.count(0), came[i]);
    }
    due.says("it ends where the row is missing, ends (within a three, too)");
    int[] lengths = {0, 1, 2, 3, 4, 5, 6, 20, 21, 22};
    int[] threes = {0, 0, 0, 1, 1, 1, 2, 6, 7, 7};
    for (int i = 0; i < lengths.length; i++) {
      HeldTillSet x = new HeldTillSet();
      x.row(0, 0, lengths[i]);
      for (int p = 0; p < lengths[i]; p++) {
        x.put(0, p, 1);
      }
      due.is("a row of " + lengths[i], x.joints(0, 0, 7), threes[i]);
    }
    for (int shelf = 0; shelf <= 5; shelf++) {
      due.is("missing on shelf " + shelf, new HeldTillSet().joints(shelf, 0, 7), 0);
    }
  }

  private static void howManyOfARow() {
    due.promise(3);
    due.says("n (1 .. 7) of them: how many came");
    long[] row = new long[24];
    java.util.Arrays.fill(row, 1);
    for (int n : new int[] {MIN, -1, 0, 8, 9, MAX}) {
      HeldTillSet x = new HeldTillSet();
      Due.bytes(x, 0, row);
      due.is("n " + n, x.joints(0, 0, n), BAD);
      due.is("none came", x.count(0), 0);
    }
    for (int n = 1; n <= 7; n++) {
      HeldTillSet x = new HeldTillSet();
      Due.bytes(x, 0, row);
      due.is("n " + n, x.joints(0, 0, n), n);
      due.is("so many came", x.count(0), n);
    }
    due.says("BAD, -12 (no ROW of bytes; a SHELF that holds nothing is missing)");
    HeldTillSet x = new HeldTillSet();
    for (int sort = 1; sort <= 4; sort++) {
      Due.row(x, 1, sort, 1, 1, 1);
      due.is("a row of sort " + sort, x.joints(1, 0, 1), -12);
    }
    x.body(0);
    x.keep(1, 0);
    due.is("a body", x.joints(1, 0, 1), -12);
    due.is("a body, i below 0", x.joints(1, -1, 1), -12);
    due.is("a body, n 0", x.joints(1, 0, 0), BAD);
    x.keep(1, -1);
    due.is("nothing", x.joints(1, 0, 1), 0);
    due.is("none came", x.count(0), 0);
  }

  private static void threesThatMayNotBe() {
    due.promise(3);
    due.says("by threes FITS, HANDS, HELD; it ends where one is not as it may be: those ahead came");
    int[][] bad = {{0, 1, 1}, {10, 1, 1}, {-1, 1, 1}, {127, 1, 1}, {-128, 1, 1}, {1, -1, 1}, {1, 4, 1}, {1, 127, 1}, {1, 1, -1},
      {1, 1, 3}, {1, 1, -128}};
    for (int[] b : bad) {
      HeldTillSet x = new HeldTillSet();
      Due.bytes(x, 0, 9, 3, 2, b[0], b[1], b[2], 1, 0, 0);
      due.is(b[0] + ", " + b[1] + ", " + b[2], x.joints(0, 0, 3), 1);
      due.is("those ahead came", x.count(0), 1);
      due.is("FITS", x.of(0, 0), 9);
      due.is("HANDS", x.of(0, 1), 3);
      due.is("HELD", x.of(0, 2), 2);
      due.is("it alone", x.joints(0, 3, 1), 0);
      due.is("behind it", x.joints(0, 6, 1), 1);
      int[] least = {1, 0, 0, 1, 0, 0};
      for (int what = 0; what <= 5; what++) {
        due.is("of(1, " + what + ")", x.of(1, what), least[what]);
      }
    }
    HeldTillSet x = new HeldTillSet();
    Due.bytes(x, 0, 256 + 4, 512 + 2, -256);
    due.is("what is put in keeps its lowest bits", x.joints(0, 0, 1), 1);
    due.is("FITS", x.of(0, 0), 4);
    x.put(0, 0, 8);
    due.is("the row is the shelf's own", x.of(0, 0), 4);
    x.mend(0, 0, 5);
    due.is("and the joint the bench's", x.element(0, 0), 8);
    due.is("none is a change", x.count(2), 1);
  }

  private static void fullFromARow() {
    due.promise(3);
    due.says("it ends where JOINTS are FULL: those ahead came");
    long[] row = new long[21];
    java.util.Arrays.fill(row, 2);
    for (int there = 0; there <= 7; there++) {
      HeldTillSet x = joints(there);
      Due.bytes(x, 0, row);
      due.is("with " + there + " there", x.joints(0, 0, 7), 7 - there);
      due.is("seven", x.count(0), 7);
      due.is("an eighth", x.joints(0, 0, 1), 0);
      due.is("an eighth by call", x.joint(1, 1), FULL);
    }
  }

  private static void of() {
    due.promise(5);
    due.says("As of mend() (0 to 10); number 0: 11 NOW, 12 which are fitted; BAD");
    HeldTillSet x = joints(7);
    for (int number : new int[] {MIN, -1, 7, 8, MAX}) {
      for (int what = 0; what <= 12; what++) {
        due.is("of(" + number + ", " + what + ")", x.of(number, what), BAD);
      }
    }
    for (int number = 1; number < 7; number++) {
      for (int what = 6; what <= 12; what++) {
        due.is("of(" + number + ", " + what + ")", x.of(number, what), BAD);
      }
    }
    for (int what : new int[] {MIN, -1, 13, MAX}) {
      due.is("of(0, " + what + ")", x.of(0, what), BAD);
      due.is("of(1, " + what + ")", x.of(1, what), BAD);
    }
    for (int j = 0; j < 7; j++) {
      x.mend(j, 2, 0);
      due.is("NOW", x.of(0, 11), j);
      due.is("fitted", x.of(0, 12), (1 << j) - 1);
      x.fit(j);
    }
    due.is("all seven", x.of(0, 12), 127);
    HeldTillSet y = joints(0);
    due.is("no joint 0", y.of(0, 5), BAD);
    due.is("MEN without a joint", y.of(0, 6), 0);
    due.is("SLIPS without a joint", y.of(0, 10), 0);
    y.stay(999);
    due.is("NOW without a joint", y.of(0, 11), 999);
    due.is("fitted without a joint", y.of(0, 12), 0);
  }

  private static void bytesOfTheTape() {
    due.promise(6);
    due.says("A byte (0 .. 255): how many it has; BAD");
    HeldTillSet x = new HeldTillSet();
    for (int letter : new int[] {MIN, -1, 256, 257, MAX}) {
      due.is("feed(" + letter + ")", x.feed(letter), BAD);
    }
    due.is("none came", x.count(1), 0);
    for (int letter = 0; letter <= 255; letter++) {
      due.is("feed(" + letter + ")", new HeldTillSet().feed(letter), 1);
    }
  }

  private static void tapeIsFull() {
    due.promise(6);
    due.says("FULL (120)");
    HeldTillSet x = new HeldTillSet();
    for (int i = 1; i <= 120; i++) {
      due.is("byte " + i, x.feed(i < 120 ? '-' : '5'), i);
    }
    due.is("byte 121", x.feed('5'), FULL);
    due.is("the least byte", x.feed(0), FULL);
    due.is("the greatest byte", x.feed(255), FULL);
    due.is("no byte is ahead of FULL", x.feed(256), BAD);
    due.is("no byte is ahead of FULL", x.feed(-1), BAD);
    due.is("how many", x.count(1), 120);
    due.is("empty then", x.law(), -106);
    due.is("how many", x.count(1), 0);
    due.is("byte 1", x.feed('5'), 1);
  }

  private static void tapeIsEmptyThen() {
    due.promise(7);
    due.says("THE TAPE is empty then");
    HeldTillSet x = joints(1);
    due.is("an empty tape is no law", x.law(), -100);
    due.is("without a text", x.sets(0), 10);
    due.is("a law", Due.law(x, "3"), 1);
    due.is("count(1)", x.count(1), 0);
    due.is("sets", x.sets(0), 3);
    due.is("what was fed ahead is gone", Due.law(x, "4"), 1);
    due.is("sets", x.sets(0), 4);
    due.is("a fault", Due.law(x, "5)"), -101);
    due.is("count(1)", x.count(1), 0);
    due.is("the law is as it was", x.sets(0), 4);
    due.is("an empty tape again", x.law(), -100);
    due.is("the law is as it was", x.sets(0), 4);
    x.feed('9');
    due.is("fed, but no law yet", x.sets(0), 4);
    due.is("law", x.law(), 1);
    due.is("sets", x.sets(0), 9);
  }

  private static boolean isOf(int letter, String letters) {
    return letters.indexOf((char) letter) >= 0;
  }

  /** The answer of law() to a text and one byte behind it. */
  private static int with(String text, int letter) {
    HeldTillSet x = new HeldTillSet();
    for (int i = 0; i < text.length(); i++) {
      x.feed(text.charAt(i));
    }
    x.feed(letter);
    return x.law();
  }

  private static void firstByte() {
    due.promise(7);
    due.says("FAULT: the first byte with which no TEXT goes on; the length, if it ends too early");
    for (int letter = 0; letter <= 255; letter++) {
      boolean whole = isOf(letter, "0123456789gwfhnk");
      boolean early = isOf(letter, "!-(");
      for (String ahead : new String[] {"", "1;", "1?", "g|", "7&", "1<", "1=", "1>", "w+", "f-", "h*", "n/", "k%", "0;0;"}) {
        int at = ahead.length();
        due.is("byte " + letter + " behind " + ahead, with(ahead, letter), whole ? 1 : -100 - (early ? at + 1 : at));
      }
      for (String ahead : new String[] {"!", "-", "(", "1+("}) {
        int at = ahead.length();
        boolean more = early || whole && ahead.endsWith("(");
        due.is("byte " + letter + " behind " + ahead, with(ahead, letter), whole && !more ? 1 : -100 - (more ? at + 1 : at));
      }
    }
  }

  private static void byteBehind() {
    due.promise(7);
    due.says("FAULT: the first byte with which no TEXT goes on");
    for (int letter = 0; letter <= 255; letter++) {
      boolean digit = isOf(letter, "0123456789");
      boolean sign = isOf(letter, "|&+-*/%");
      boolean compares = isOf(letter, "<=>");
      for (String ahead : new String[] {"1", "g", "(1)", "!w", "-f", "1;2"}) {
        boolean more = sign || compares || letter == ';' || letter == '?';
        int at = ahead.length();
        boolean whole = digit && (ahead.equals("1") || ahead.equals("1;2"));
        due.is("byte " + letter + " behind " + ahead, with(ahead, letter), whole ? 1 : -100 - (more ? at + 1 : at));
      }
      due.says("E ? E: one ? in a line");
      due.is("byte " + letter + " behind 1?g", with("1?g", letter), sign || compares || letter == ';' ? -104 : -103);
      due.says("S < S: one sign that compares");
      due.is("byte " + letter + " behind 1<g", with("1<g", letter), sign || letter == ';' || letter == '?' ? -104 : -103);
      due.is("byte " + letter + " behind 1&1=g", with("1&1=g", letter), sign || letter == ';' || letter == '?' ? -106 : -105);
      due.says("( E ): neither ? nor ; in it");
      due.is("byte " + letter + " behind (g", with("(g", letter), letter == ')' ? 1 : sign || compares ? -103 : -102);
    }
    due.says("S < S, each in its own brackets, or parted by | and &");
    due.is("(1<2)<3", with("(1<2)<", '3'), 1);
    due.is("1<2&2<3|3=3&4>4", with("1<2&2<3|3=3&4>", '4'), 1);
  }

  private static void digits() {
    due.promise(7);
    due.says("a number (1 to 4 digits)");
    String[] texts = {"0", "9", "00", "000", "0000", "00000", "9999", "10000", "99999", "1+1234", "1+12345", "(12345)", "1234;5678",
      "-1234", "-12345"};
    int[] want = {1, 1, 1, 1, 1, -104, 1, -104, -104, 1, -106, -105, 1, 1, -105};
    for (int i = 0; i < texts.length; i++) {
      due.is("law of " + texts[i], Due.law(new HeldTillSet(), texts[i]), want[i]);
    }
    HeldTillSet x = joints(1);
    Due.law(x, "9999/101");
    due.is("all four digits", x.sets(0), 99);
    Due.law(x, "0037");
    due.is("noughts ahead", x.sets(0), 37);
  }

  private static void openAtOnce() {
    due.promise(7);
    due.says("At most 6 of ( ! - ahead of an O are open at once");
    for (int seven = 0; seven < 3 * 729; seven++) {
      StringBuilder text = new StringBuilder();
      StringBuilder closing = new StringBuilder();
      for (int i = 0, rest = seven; i < 7; i++, rest /= 3) {
        char sign = "(!-".charAt(rest % 3);
        text.append(sign);
        closing.append(sign == '(' ? ")" : "");
      }
      due.is("seven open: " + text, Due.law(new HeldTillSet(), text + "g" + closing), -106);
      if (seven < 729) {
        String six = text.substring(0, 6);
        String ends = closing.substring(0, closing.length() - 1);
        due.is("six open: " + six, Due.law(new HeldTillSet(), six + "g" + ends), 1);
        due.is("six open, twice: " + six, Due.law(new HeldTillSet(), six + "g" + ends + "-" + six + "1" + ends), 1);
        due.is("six open, in a line behind", Due.law(new HeldTillSet(), "((1));" + six + "g" + ends + "?" + six + "g" + ends), 1);
        due.is("six open, too early: " + six, Due.law(new HeldTillSet(), six), -106);
      }
    }
    due.is("the seventh of those that are open then", Due.law(new HeldTillSet(), "(((((-1+!1*-(0))))))"), -112);
    due.is("closed ones do not count", Due.law(new HeldTillSet(), "(((((-1+!1*-2)))))"), 1);
    due.is("a sign between two is none of them", Due.law(new HeldTillSet(), "1-((((((1-1-1-1))))))-1"), 1);
  }

  private static void wholeTape() {
    due.promise(7);
    due.says("THE TAPE (at most 120 bytes)");
    StringBuilder sum = new StringBuilder("1");
    for (int i = 0; i < 59; i++) {
      sum.append("+1");
    }
    HeldTillSet x = joints(1);
    due.is("120 bytes", Due.law(x, sum + "9"), 1);
    due.is("their sum", x.sets(0), 78);
    due.is("119 bytes", Due.law(x, sum.toString()), 1);
    due.is("their sum", x.sets(0), 60);
    due.is("120 bytes that end too early", Due.law(x, sum + "+"), -220);
    due.is("the last byte is the fault", Due.law(x, sum + "g"), -219);
    StringBuilder nested = new StringBuilder("1+1+1+1+");
    for (int i = 0; i < 7; i++) {
      nested.append("((((((1))))))+");
    }
    x = joints(1);
    due.is("eight of six deep in 120 bytes", Due.law(x, nested + "((((((10))))))"), 1);
    due.is("their sum", x.sets(0), 21);
    StringBuilder lines = new StringBuilder();
    for (int i = 0; i < 59; i++) {
      lines.append("0;");
    }
    due.is("sixty lines", Due.law(x, lines + "12"), 1);
    due.is("the first counts", x.sets(0), 0);
    lines = new StringBuilder();
    for (int i = 0; i < 29; i++) {
      lines.append("0?1;");
    }
    x = joints(1);
    due.is("thirty lines", Due.law(x, lines + "1?55"), 1);
    due.is("the last counts", x.sets(0), 55);
    due.is("thirty lines, none of which counts", Due.law(x, lines + "0?55"), 1);
    due.is("none: 0", x.sets(0), 0);
  }

  /** What a text gives for joint 1 of FITS 4, HELD 2, with 3 fitted; GLUE is 10, WARM 20. */
  private static void gives(String text, int want) {
    HeldTillSet x = joints(1);
    x.joint(4, 1);
    x.mend(1, 2, 2);
    due.is("law of " + text, Due.law(x, text), 1);
    due.is("sets(13) by " + text, x.sets(13), want);
  }

  private static void lines() {
    due.promise(8);
    due.says("The first LINE without a first E, or whose first E is not 0, counts; none: 0");
    gives("5", 5);
    gives("5;6", 5);
    gives("0;6", 0);
    gives("0?5", 0);
    gives("0?5;6", 6);
    gives("1?5;6", 5);
    gives("2?5;6", 5);
    gives("0-1?5;6", 5);
    gives("0?5;0?6;7", 7);
    gives("0?5;1?6;7", 6);
    gives("0?5;0?6;0?7", 0);
    gives("1?0;7", 0);
    gives("n=3?8;n=2?9;1", 8);
    gives("n=2?8;n=3?9;1", 9);
    gives("n=2?8;n=4?9;1", 1);
    gives("g;w?1", 10);
  }

  private static void signs() {
    due.promise(8);
    due.says("| & < = > ! give 1, 0");
    for (int a = 0; a <= 3; a++) {
      for (int b = 0; b <= 3; b++) {
        gives(a + "|" + b, a > 0 || b > 0 ? 1 : 0);
        gives(a + "&" + b, a > 0 && b > 0 ? 1 : 0);
        gives(a + "<" + b, a < b ? 1 : 0);
        gives(a + "=" + b, a == b ? 1 : 0);
        gives(a + ">" + b, a > b ? 1 : 0);
      }
      gives("!" + a, a == 0 ? 1 : 0);
      gives("!-" + a, a == 0 ? 1 : 0);
      gives("!!" + a, a == 0 ? 0 : 1);
    }
    due.says("A { | A }, B { & B }, S < S, P { + P, - P }, O { * O, / O, % O }");
    gives("1|1&0", 1);
    gives("(1|1)&0", 0);
    gives("1&2<1", 0);
    gives("2<1+2", 1);
    gives("(2<1)+2", 2);
    gives("10-4-3", 3);
    gives("10-(4-3)", 9);
    gives("10-4+3", 9);
    gives("2+3*4", 14);
    gives("(2+3)*4", 20);
    gives("40/4/2", 5);
    gives("40/4*2", 20);
    gives("7%4*2", 6);
    gives("7*4%3", 1);
    gives("-2+5", 3);
    gives("-2*-3", 6);
    gives("!2+5", 5);
    gives("!0*7", 7);
    gives("--7", 7);
    gives("0|0|0|5", 1);
    gives("4&5&6", 1);
    gives("4&0&6", 0);
  }

  private static void intsThatWrap() {
    due.promise(8);
    due.says("Ints that wrap");
    String least = "256*256*256*128";
    gives(least + "<0", 1);
    gives(least + "-1>0", 1);
    gives(least + "-1", 99);
    gives(least, 0);
    gives("(" + least + "-1)+1<0", 1);
    gives("-(" + least + ")<0", 1);
    gives("(" + least + ")/-1<0", 1);
    gives("(" + least + ")%-1", 0);
    gives("(" + least + ")+(" + least + ")", 0);
    gives("(" + least + ")*2", 0);
    gives("256*256*256*256", 0);
    gives("256*256*256*256+7", 7);
    gives("!(256*256*256*256)", 1);
    gives("(" + least + "-1)*(" + least + "-1)", 1);
    gives("(" + least + ")/256/256/256", 0);
    gives("-((" + least + ")/256/256/2)", 64 + 35);
    gives("-((" + least + ")/256/256/512)", 64);
  }

  private static void towardNought() {
    due.promise(8);
    due.says("/ and % toward 0, by 0 they give 0");
    gives("7/2", 3);
    gives("10+-7/2", 7);
    gives("10+7/-2", 7);
    gives("10+-7/-2", 13);
    gives("7%4", 3);
    gives("10+-7%4", 7);
    gives("10+7%-4", 13);
    gives("10+-7%-4", 7);
    gives("0-(-1/2)", 0);
    gives("7/0", 0);
    gives("7%0", 0);
    gives("0/0", 0);
    gives("0%0", 0);
    gives("5+7/0", 5);
    gives("5+7%0", 5);
    gives("7/(n-3)+2", 2);
    gives("7%(n-3)+2", 2);
    due.says("all is worked out");
    gives("0&7/0", 0);
    gives("1|7%0", 1);
    gives("1?5;7/0", 5);
    gives("7/0?5;6", 6);
  }

  private static void heldWithin() {
    due.promise(8);
    due.says("held within 0 .. 99");
    gives("98", 98);
    gives("99", 99);
    gives("100", 99);
    gives("9999", 99);
    gives("0", 0);
    gives("1", 1);
    gives("-1", 0);
    gives("0-9999", 0);
    gives("-1+2", 1);
    gives("100-1", 99);
    gives("200/2-2", 98);
  }

  private static void names() {
    due.promise(8);
    due.says("g GLUE, w WARM, f FITS, h HELD, n how many JOINTS are fitted by then, k the JOINT");
    gives("g", 10);
    gives("w", 20);
    gives("f", 4);
    gives("h", 2);
    gives("n", 3);
    gives("k", 1);
    HeldTillSet x = joints(7);
    Due.law(x, "k*10+n");
    for (int k = 0; k < 7; k++) {
      for (int n = 0; n <= 7; n++) {
        due.is("sets(" + (10 * k + n) + ")", x.sets(10 * k + n), 10 * k + n);
      }
    }
    Due.law(x, "g");
    for (int glue : new int[] {0, 1, 98, 99}) {
      x.mend(0, 8, glue);
      due.is("GLUE " + glue, x.sets(0), glue);
    }
    Due.law(x, "w");
    for (int warm : new int[] {0, 1, 29, 30}) {
      x.mend(0, 9, warm);
      due.is("WARM " + warm, x.sets(0), warm);
    }
    Due.law(x, "f*10+h");
    x.mend(6, 0, 9);
    x.mend(6, 2, 0);
    due.is("FITS 9, HELD 0", x.sets(60), 90);
    due.is("of that joint alone", x.sets(50), 11);
  }

  private static void withoutAText() {
    due.promise(8);
    due.says("Without a text: 30 less g less w by 2 (cut), 1 at least");
    HeldTillSet x = joints(1);
    for (int glue = 0; glue <= 99; glue++) {
      x.mend(0, 8, glue);
      x.mend(0, 9, 0);
      due.is("GLUE " + glue + ", WARM 0", x.sets(0), glue < 29 ? 30 - glue : 1);
    }
    x.mend(0, 8, 5);
    for (int warm = 0; warm <= 30; warm++) {
      x.mend(0, 9, warm);
      due.is("GLUE 5, WARM " + warm, x.sets(0), 25 - (warm - warm % 2) / 2);
    }
    x.mend(0, 8, 14);
    due.is("1", x.sets(0), 1);
    x.mend(0, 8, 15);
    due.is("1 at least", x.sets(0), 1);
    x.mend(0, 8, 13);
    due.is("2", x.sets(0), 2);
  }

  private static void joint0To6AndN0To7() {
    due.promise(8);
    due.says("n (0 .. 7) fitted by then (kn: 10 times the JOINT, and n). BAD");
    for (int size = 0; size <= 7; size++) {
      HeldTillSet x = joints(size);
      for (int kn = 0; kn <= 79; kn++) {
        due.is("sets(" + kn + ") of " + size, x.sets(kn), kn / 10 < size && kn % 10 <= 7 ? 10 : BAD);
      }
      for (int kn : new int[] {MIN, -10, -1, 80, 100, 1000, MAX}) {
        due.is("sets(" + kn + ") of " + size, x.sets(kn), BAD);
      }
    }
  }
}
