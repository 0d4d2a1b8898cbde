/** Collects answers that are not the ones due, and ends the test with them. */
final class Due {
  private final String test;
  private int promise;
  private String sentence = "";
  private int asked;
  private int wrong;

  Due(String test) {
    this.test = test;
  }

  void promise(int number) {
    promise = number;
    sentence = "";
  }

  /** The words of the document that the answers behind it are about. */
  void says(String words) {
    sentence = " (" + words + ")";
  }

  void is(String call, long got, long want) {
    asked++;
    if (got != want) {
      wrong++;
      if (wrong <= 40) {
        System.out.println(test + ", promise " + promise + sentence + ": " + call + " answered " + got + ", due is " + want);
      }
    }
  }

  int wrong() {
    return wrong;
  }

  void end() {
    System.out.println(test + ": " + asked + " answers, " + wrong + " not as due");
    if (wrong != 0 || asked == 0) {
      System.exit(1);
    }
  }

  /** Feeds a text to the tape and makes it the law. */
  static int law(HeldTillSet x, String text) {
    for (int i = 0; i < text.length(); i++) {
      x.feed(text.charAt(i));
    }
    return x.law();
  }

  /** Lays a row of a sort on a shelf. */
  static void row(HeldTillSet x, int shelf, int sort, long... values) {
    x.row(shelf, sort, values.length);
    for (int i = 0; i < values.length; i++) {
      x.put(shelf, i, values[i]);
    }
  }

  static void bytes(HeldTillSet x, int shelf, long... values) {
    row(x, shelf, 0, values);
  }

  static void shorts(HeldTillSet x, int shelf, long... values) {
    row(x, shelf, 1, values);
  }

  /** Joints of 2, 3 and 1 minutes that take 2, 1 and 1 hands, each set in 10 minutes; their order on shelf 0. */
  static HeldTillSet three() {
    HeldTillSet x = new HeldTillSet();
    x.joint(2, 2);
    x.joint(3, 1);
    x.joint(1, 1);
    bytes(x, 0, 0, 1, 2);
    return x;
  }
}
