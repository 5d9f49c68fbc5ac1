/** What the tests share: answers compared with what is due, and texts put on the tape. */
final class Due {
  static final int LOW = -1000000000;
  static final int BEYOND = LOW - 1;
  static final int NONE = LOW - 2;
  static final int STATE = LOW - 3;
  static final int FULL = LOW - 4;
  static final int KIND = LOW - 5;
  static final int PARTED = LOW - 6;

  private static int right = 0;
  private static int wrong = 0;
  private static String part = "";

  private Due() {
  }

  static void part(String name) {
    part = name;
  }

  static void due(String call, long got, long want) {
    if (got == want) {
      right++;
    } else {
      wrong++;
      System.out.println(part + ": " + call + " answered " + got + ", due is " + want);
    }
  }

  static void holds(String what, boolean itHolds) {
    due(what, itHolds ? 1 : 0, 1);
  }

  /** Feeds the characters of a text, eight a call. */
  static void feed(OilMemories x, String text) {
    for (int from = 0; from < text.length(); from += 8) {
      int n = Math.min(8, text.length() - from);
      long word = 0;
      for (int i = n - 1; i >= 0; i--) {
        word = word << 8 | text.charAt(from + i) & 255;
      }
      x.feed(word, n);
    }
  }

  static int text(OilMemories x, int use, String text) {
    feed(x, text);
    return x.text(use);
  }

  static void end() {
    System.out.println(right + " right, " + wrong + " wrong");
    if (wrong != 0) {
      System.exit(1);
    }
  }
}
