/** Promises 11 to 14: the tape, texts and laws. */
public final class TextsTest {
  public static void main(String[] args) {
    feed();
    text();
    signs();
    orders();
    faults();
    namesOfAUse();
    depths();
    untell();
    law();
    Due.end();
  }

  private static void feed() {
    Due.part("promise 11");
    OilMemories x = new OilMemories();
    Due.due("feed(.., 0)", x.feed(0L, 0), Due.BEYOND);
    Due.due("feed(.., 9)", x.feed(0L, 9), Due.BEYOND);
    Due.due("feed(.., -1)", x.feed(0L, -1), Due.BEYOND);
    Due.due("feed 1 of 3", x.feed(0x323130L, 1), 1);
    Due.due("count(4)", x.count(4), 1);
    Due.due("feed 2 of 3", x.feed(0x322b32L, 2), 3);
    Due.due("feed 1 of 1", x.feed(0x39L, 1), 4);
    Due.due("text(0)", x.text(0), 1);
    Due.due("02+9", x.law(0, 0, 0, 0), 11);
    Due.due("feed 8", x.feed(0x382b372b362b352bL, 8), 8);
    Due.due("a first + is a fault", x.text(0), -10);
    Due.due("feed 8", x.feed(0x2b372b362b352b34L, 8), 8);
    Due.due("feed 1", x.feed(0x38L, 1), 9);
    Due.due("text(0)", x.text(0), 1);
    Due.due("4+5+6+7+8", x.law(0, 0, 0, 0), 30);
    for (int i = 1; i <= 7; i++) {
      Due.due("feed 8", x.feed(-1L, 8), 8 * i);
    }
    Due.due("56 and 5", x.feed(0L, 5), Due.FULL);
    Due.due("beyond ahead of full", x.feed(0L, 9), Due.BEYOND);
    Due.due("56 and 4", x.feed(0L, 4), 60);
    Due.due("60 and 1", x.feed(0L, 1), Due.FULL);
    Due.due("count(4)", x.count(4), 60);
    Due.due("byte 255", x.text(0), -10);
    Due.due("count(4)", x.count(4), 0);
  }

  private static void text() {
    Due.part("promise 12");
    OilMemories x = new OilMemories();
    Due.due("an empty tape", x.text(0), -10);
    Due.feed(x, "l+1");
    Due.due("text(2)", x.text(2), Due.BEYOND);
    Due.due("text(-1)", x.text(-1), Due.BEYOND);
    Due.due("the tape stays", x.count(4), 3);
    Due.due("text(0)", x.text(0), 1);
    Due.due("the tape is empty", x.count(4), 0);
    Due.due("law(0, 4, 0, 0)", x.law(0, 4, 0, 0), 5);
    Due.due("in place of it", Due.text(x, 0, "l+2"), 1);
    Due.due("law(0, 4, 0, 0)", x.law(0, 4, 0, 0), 6);
    Due.due("a fault", Due.text(x, 0, "l+3+"), -14);
    Due.due("the tape is empty", x.count(4), 0);
    Due.due("the one ahead stays", x.law(0, 4, 0, 0), 6);
    Due.due("the other use has none", x.law(1, 4, 0, 0), 17);
    Due.due("text(1)", Due.text(x, 1, "w-d-k"), 1);
    Due.due("law(1, 90, 20, 3)", x.law(1, 90, 20, 3), 67);
    Due.due("law(0, 4, 0, 0)", x.law(0, 4, 0, 0), 6);
    Due.due("told(1)", x.told(1), 2);
    Due.due("60 bytes", Due.text(x, 0, "1+".repeat(29) + "11"), 1);
    Due.due("60 bytes", x.law(0, 0, 0, 0), 40);
  }

  /** What a text gives with w 7, d -3 and k 2. */
  private static void gives(String text, int want) {
    OilMemories x = new OilMemories();
    Due.due(text + " is a text", Due.text(x, 1, text), 1);
    Due.due(text, x.law(1, 7, -3, 2), want);
  }

  private static void signs() {
    gives("w+d", 4);
    gives("w-d", 10);
    gives("100+w*d", 79);
    gives("100+w/d", 98);
    gives("100+d/k", 99);
    gives("100+w%d", 101);
    gives("100+d%k", 99);
    gives("w/0", 0);
    gives("w%0", 0);
    gives("w/(k-2)+5", 5);
    gives("w%(k-2)+5", 5);
    gives("w<8", 1);
    gives("w<7", 0);
    gives("w=7", 1);
    gives("w=8", 0);
    gives("w>6", 1);
    gives("w>7", 0);
    gives("d<0", 1);
    gives("d&w", 1);
    gives("0&w", 0);
    gives("w&0", 0);
    gives("0|0", 0);
    gives("5+(0|0)", 5);
    gives("5+(w&0)", 5);
    gives("5+(w<d)", 5);
    gives("5+(w=d)", 5);
    gives("5+(d>w)", 5);
    gives("5+!w", 5);
    gives("0|d", 1);
    gives("d|0", 1);
    gives("k|w", 1);
    gives("!0", 1);
    gives("!d", 0);
    gives("!!d", 1);
    gives("!w+1", 1);
    gives("(w)", 7);
    gives("0007", 7);
    gives("9999-9990", 9);
    gives("9999*9999*9999/9999>0", 0);
    gives("(0-9999*9999*22)/9999/9999", 20);
  }

  private static void orders() {
    gives("2+3*4", 14);
    gives("(2+3)*4", 20);
    gives("20-5-4", 11);
    gives("100/7/2", 7);
    gives("100%7*3", 6);
    gives("3*100%7", 6);
    gives("100-8/2*4", 84);
    gives("1+1<3", 1);
    gives("2<1+2", 1);
    gives("1&0|1", 1);
    gives("1|1&0", 1);
    gives("(1|1)&0", 0);
    gives("0=1|5", 1);
    gives("0&1=0", 0);
    gives("1=1&2=2&3=3", 1);
    gives("0|0|0|4", 1);
    gives("(1<2)<3", 1);
    gives("5*(1<2)+3", 8);
    gives("!(w=7)*4+2", 2);
    gives("!0*4", 4);
  }

  private static void fault(String text, int place) {
    OilMemories x = new OilMemories();
    Due.due(text + " is a fault", Due.text(x, 1, text), -10 - place);
    Due.due("told(1)", x.told(1), 0);
  }

  private static void faults() {
    fault("", 0);
    fault("+", 0);
    fault(")", 0);
    fault(" 1", 0);
    fault("1 ", 1);
    fault("w+", 2);
    fault("w++", 2);
    fault("1<2<3", 3);
    fault("1<2=3", 3);
    fault("1=2+3>4", 5);
    fault("(1<2<3)", 4);
    fault("12345", 4);
    fault("0000+00000", 9);
    fault("w2", 1);
    fault("2w", 1);
    fault("ww", 1);
    fault("1!", 1);
    fault("!", 1);
    fault("!)", 1);
    fault("()", 1);
    fault("(1", 2);
    fault("(1))", 3);
    fault("1)", 1);
    fault("1(", 1);
    fault("(1)(", 3);
    fault("(1)2", 3);
    fault("1||2", 2);
    fault("1&", 2);
    fault("1<", 2);
    fault("w*-1", 2);
    fault("1:2", 1);
    fault("1/2,", 3);
    fault("W", 0);
    fault("1\u00b1", 1);
    fault("\u00b1", 0);
    fault("1+".repeat(30), 60);
  }

  private static void namesOfAUse() {
    OilMemories x = new OilMemories();
    Due.due("names of LIGHT", Due.text(x, 0, "l*10+o*5-n"), 1);
    Due.due("law(0, 4, 3, 2)", x.law(0, 4, 3, 2), 53);
    for (String name : new String[] {"w", "d", "k", "a", "m"}) {
      Due.due(name + " of LIGHT", Due.text(x, 0, "1+" + name), -12);
    }
    for (String name : new String[] {"l", "o", "n", "a", "x"}) {
      Due.due(name + " of WANTED", Due.text(x, 1, "1+" + name), -12);
    }
    Due.due("names of WANTED", Due.text(x, 1, "w*10+d*5-k"), 1);
    Due.due("law(1, 4, 3, 2)", x.law(1, 4, 3, 2), 53);
  }

  private static void depths() {
    gives("!!!!!7", 0);
    fault("!!!!!!7", 5);
    gives("(((((7)))))", 7);
    fault("((((((7))))))", 5);
    gives("!(!(!7))", 0);
    fault("!(!(!(w)", 5);
    fault("(((((1)", 7);
    gives("(((((7)))))+(((((8)))))", 15);
    gives("!!!!!7+!!!!!0", 1);
    fault("!(!(!(1)))", 5);
    gives("!(!(!1)+!!!0)", 0);
    fault("!(!(!1)+!!!!0)", 11);
    fault("(((((!1)))))", 5);
  }

  private static void untell() {
    Due.part("promise 13");
    OilMemories x = new OilMemories();
    Due.text(x, 0, "l+1");
    Due.text(x, 1, "w+1");
    Due.due("untell(2)", x.untell(2), Due.BEYOND);
    Due.due("untell(-1)", x.untell(-1), Due.BEYOND);
    Due.due("untell(1)", x.untell(1), 1);
    Due.due("untell(1)", x.untell(1), 0);
    Due.due("law(1, 3, 0, 0)", x.law(1, 3, 0, 0), 14);
    Due.due("law(0, 3, 0, 0)", x.law(0, 3, 0, 0), 4);
    Due.due("untell(0)", x.untell(0), 1);
    Due.due("law(0, 3, 0, 0)", x.law(0, 3, 0, 0), 3);
    Due.due("untell(0)", x.untell(0), 0);
    Due.text(x, 0, "7");
    Due.due("untell(0) of a 7", x.untell(0), 1);
    Due.due("law(0, 3, 0, 0)", x.law(0, 3, 0, 0), 3);
  }

  private static void law() {
    Due.part("promise 14");
    OilMemories x = new OilMemories();
    int[][] laws = {{0, -1, 0}, {0, 0, 0}, {0, 99, 99}, {0, 100, 99}, {0, Integer.MIN_VALUE, 0},
      {1, 0, 5}, {1, -1, 2}, {1, -2, 0}, {1, 64, 197}, {1, 65, 199}, {1, 715827880, 199}, {1, 715827881, 0},
      {1, Integer.MAX_VALUE, 0}, {1, Integer.MIN_VALUE, 0}, {1, -1431655766, 3}};
    for (int[] a : laws) {
      Due.due("law(" + a[0] + ", " + a[1] + ", ..)", x.law(a[0], a[1], 77, 88), a[2]);
    }
    Due.due("law(2, ..)", x.law(2, 0, 0, 0), Due.BEYOND);
    Due.due("law(-1, ..)", x.law(-1, 0, 0, 0), Due.BEYOND);
    Due.text(x, 0, "l+o*n");
    Due.due("law(0, 5, 6, 7)", x.law(0, 5, 6, 7), 47);
    Due.due("law(0, 5, 65536, 65536)", x.law(0, 5, 65536, 65536), 5);
    Due.due("law(0, 50, 50, 1)", x.law(0, 50, 50, 1), 99);
    Due.due("law(0, 50, 50, -1)", x.law(0, 50, 50, -1), 0);
    Due.due("law(0, 50, 51, -1)", x.law(0, 50, 51, -1), 0);
    Due.text(x, 0, "l/o+n");
    Due.due("the least by -1 wraps", x.law(0, Integer.MIN_VALUE, -1, Integer.MIN_VALUE + 9), 9);
    Due.text(x, 0, "l%o+n");
    Due.due("the least's rest by -1", x.law(0, Integer.MIN_VALUE, -1, 9), 9);
    Due.text(x, 1, "w-d+k");
    Due.due("law(1, 200, 5, 4)", x.law(1, 200, 5, 4), 199);
    Due.due("law(1, 200, 5, 5)", x.law(1, 200, 5, 5), 199);
    Due.due("law(1, 200, 5, 3)", x.law(1, 200, 5, 3), 198);
    Due.due("law(1, -2147483648, 1, -2147483640)", x.law(1, Integer.MIN_VALUE, 1, -2147483640), 7);
    Due.due("law(1, 2147483647, 0, 1)", x.law(1, Integer.MAX_VALUE, 0, 1), 0);
  }
}
