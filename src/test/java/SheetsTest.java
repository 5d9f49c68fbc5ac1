/** Promises 26 to 38: voices, sheets, images, what is told. */
public final class SheetsTest {
  public static void main(String[] args) {
    voices();
    voicesThatWrap();
    partedVoices();
    traces();
    sheet();
    put();
    move();
    dears();
    judge();
    image();
    imageOfMemories();
    restore();
    tell();
    check();
    count();
    told();
    Due.end();
  }

  private static final int[][] VOICED = {
    {10, 6, 10, 10, 18, 10, 9},
    {20, 12, -20, 20, 36, -22, 23},
    {15, 7, -25, 7, 29, -27, 18},
    {2, 0, 2, 2, -4, 2, 2},
  };

  private static final int[][][] TRACES = {
    {{10}, {20, 10}, {10}, {10}, {50, 20, 10}, {10}, {70}},
    {{11, 10}, {11, 20, 10}, {30, 11, 10}, {11, 10}, {11, 50, 20, 10}, {60, 30, 11, 10}, {71, 11, 70}},
    {{12, 11, 10}, {12, 11, 20, 10}, {12, 30, 11, 10}, {40, 12, 11, 10}, {51, 12, 11, 50, 20, 10},
      {12, 60, 30, 11, 10}, {12, 71, 11, 70}},
    {{13}, {21, 13, 11, 20, 10}, {13}, {13}, {21, 13, 11, 50, 20, 10}, {13}, {13}},
  };

  private static OilMemories three() {
    OilMemories x = new OilMemories();
    x.memory(1, 1, 0);
    x.memory(2, 1, 0);
    x.memory(5, 1, 0);
    return x;
  }

  private static void traced(OilMemories x, String what, int... bodies) {
    Due.due(what + ", how many bodies", x.count(6), bodies.length);
    for (int i = 0; i < bodies.length; i++) {
      Due.due(what + ", body(" + i + ")", x.body(i), bodies[i]);
    }
    Due.due(what + ", the body behind", x.body(bodies.length), Due.NONE);
  }

  private static void voices() {
    Due.part("promise 26");
    OilMemories x = three();
    for (int kind = 0; kind <= 6; kind++) {
      x.become(2, 10 * kind + 5);
      for (int voice = 0; voice <= 3; voice++) {
        String what = "voice(2, " + voice + ", 8) of kind " + kind;
        Due.due(what, x.voice(2, voice, 8), VOICED[voice][kind]);
        traced(x, what, TRACES[voice][kind]);
      }
    }
    Due.due("voice(2, 4, 8)", x.voice(2, 4, 8), Due.BEYOND);
    Due.due("voice(2, -1, 8)", x.voice(2, -1, 8), Due.BEYOND);
    Due.due("voice(3, 0, 8)", x.voice(3, 0, 8), Due.BEYOND);
    Due.due("voice(-1, 0, 8)", x.voice(-1, 0, 8), Due.BEYOND);
    traced(x, "behind errors", 13);
  }

  private static void voicesThatWrap() {
    OilMemories x = three();
    Due.due("an answer like an ERROR", x.voice(0, 0, Due.BEYOND), Due.BEYOND);
    Due.due("is none", x.told(1), 0);
    Due.due("glows wraps", x.voice(2, 0, Integer.MAX_VALUE), Integer.MIN_VALUE + 1);
    Due.due("turns wraps", x.voice(2, 1, 1 << 30), Integer.MIN_VALUE + 4);
    x.become(2, 31);
    Due.due("x / 2 is cut toward 0", x.voice(2, 2, -7), (-3 + 2) * 2 - 1);
    Due.due("the least by -1", x.voice(2, 3, Integer.MIN_VALUE), Integer.MIN_VALUE);
    x.become(2, 5);
    Due.due("-8 by 3, cut", x.voice(2, 3, -8), -2);
    x.become(2, 0);
    Due.due("9 by -2, cut", x.voice(2, 3, 9), -4);
    x.become(2, 50);
    Due.due("a mother's x + 1 wraps", x.voice(2, 1, Integer.MAX_VALUE), -4);
    x.become(2, 41);
    Due.due("a regatta of the most", x.voice(2, 0, Integer.MAX_VALUE), (Integer.MAX_VALUE - 2) * 3);
  }

  private static void partedVoices() {
    OilMemories x = three();
    x.become(2, 12);
    x.voice(2, 0, 0);
    Due.due("a dance parts", x.voice(2, 3, 99), Due.PARTED);
    traced(x, "a dance parts", 21, 13);
    x.become(2, 42);
    Due.due("a regatta parts", x.voice(2, 3, 0), Due.PARTED);
    traced(x, "a regatta parts", 21, 13);
    x.become(2, 62);
    Due.due("a farm parts", x.voice(2, 3, 1), Due.PARTED);
    traced(x, "a farm parts", 13);
    Due.due("told(6)", x.told(6), 3);
    Due.due("a quotient of 0 isn't parted", x.voice(1, 3, 0), 0);
    Due.due("told(6)", x.told(6), 3);
  }

  private static void traces() {
    Due.part("promise 27");
    OilMemories x = three();
    Due.due("body(0)", x.body(0), Due.NONE);
    x.voice(0, 2, 1);
    traced(x, "gutters", 12, 11, 10);
    Due.due("body(-1)", x.body(-1), Due.NONE);
    Due.due("body(MAX)", x.body(Integer.MAX_VALUE), Due.NONE);
    Due.due("body(MIN)", x.body(Integer.MIN_VALUE), Due.NONE);
    x.voice(0, 0, 1);
    traced(x, "the latest", 10);
  }

  /** What a number of a sheet is, where it is 0 to 99; -1 if it is not. */
  private static int number(OilMemories x, int sheet, int bits, int i) {
    OilMemories probe = x;
    probe.sheet(3, bits, 1);
    if (probe.move(sheet, i, 3, 0, 1) != 1 || probe.dears(3) != 1) {
      return -1;
    }
    return probe.memoryIs(0, 4);
  }

  private static void row(OilMemories x, int sheet, int bits, int... numbers) {
    for (int i = 0; i < numbers.length; i++) {
      Due.due("number " + i + " of sheet " + sheet, number(x, sheet, bits, i), numbers[i]);
    }
    Due.due("a number behind sheet " + sheet, x.put(sheet, numbers.length, 0), Due.BEYOND);
  }

  private static void sheet() {
    Due.part("promise 28");
    OilMemories x = three();
    int[][] wrong = {{-1, 8, 1}, {4, 8, 1}, {0, 7, 1}, {0, -8, 1}, {0, 64, 1}, {0, 1, 1}, {0, 8, 25}, {0, 32, Integer.MAX_VALUE},
        {4, 8, -1}, {0, 9, -1}, {4, 0, 0}};
    for (int[] a : wrong) {
      Due.due("sheet(" + a[0] + ", " + a[1] + ", " + a[2] + ")", x.sheet(a[0], a[1], a[2]), Due.BEYOND);
    }
    Due.due("sheet(0, 8, -1)", x.sheet(0, 8, -1), Due.STATE);
    Due.due("sheet(0, 32, MIN)", x.sheet(0, 32, Integer.MIN_VALUE), Due.STATE);
    Due.due("still missing", x.put(0, 0, 1), Due.NONE);
    Due.due("sheet(0, 8, 24)", x.sheet(0, 8, 24), 1);
    row(x, 0, 8, new int[24]);
    x.put(0, 0, 8);
    x.put(0, 1, 9);
    Due.due("an ERROR changes nothing", x.sheet(0, 8, 25), Due.BEYOND);
    Due.due("number 1", number(x, 0, 8, 1), 9);
    Due.due("sheet(0, 16, 3)", x.sheet(0, 16, 3), 1);
    row(x, 0, 16, 0, 0, 0);
    Due.due("sheet(0, 0, -1)", x.sheet(0, 0, -1), 1);
    Due.due("missing", x.put(0, 0, 1), Due.NONE);
    Due.due("sheet(0, 0, 25)", x.sheet(0, 0, 25), 1);
    Due.due("sheet(1, 32, 0)", x.sheet(1, 32, 0), 1);
    Due.due("no number", x.put(1, 0, 1), Due.BEYOND);
  }

  private static void put() {
    Due.part("promise 29");
    OilMemories x = three();
    x.sheet(0, 8, 2);
    x.sheet(1, 16, 2);
    x.sheet(2, 32, 2);
    int v = 65536 * 3 + 256 * 2 + 7;
    for (int sheet = 0; sheet < 3; sheet++) {
      Due.due("put(" + sheet + ", 1, v)", x.put(sheet, 1, v), 1);
    }
    row(x, 0, 8, 0, 7);
    row(x, 1, 16, 0, -1);
    row(x, 2, 32, 0, -1);
    x.put(1, 1, 65536 * 5 + 42);
    x.put(2, 1, 65536 * 5 + 42);
    row(x, 1, 16, 0, 42);
    row(x, 2, 32, 0, -1);
    x.put(2, 0, 99);
    row(x, 2, 32, 99, -1);
    x.put(0, 0, -1);
    row(x, 0, 8, -1, 7);
    Due.due("put(-1, 0, 0)", x.put(-1, 0, 0), Due.BEYOND);
    Due.due("put(4, 0, 0)", x.put(4, 0, 0), Due.BEYOND);
    x.sheet(3, 0, 0);
    Due.due("put(3, -1, 0)", x.put(3, -1, 0), Due.NONE);
    Due.due("put(0, -1, 0)", x.put(0, -1, 0), Due.BEYOND);
    Due.due("put(0, 2, 0)", x.put(0, 2, 0), Due.BEYOND);
    Due.due("put(0, MIN, 0)", x.put(0, Integer.MIN_VALUE, 0), Due.BEYOND);
  }

  private static void move() {
    Due.part("promise 30");
    OilMemories x = three();
    x.sheet(0, 8, 5);
    x.sheet(1, 8, 4);
    x.sheet(2, 16, 5);
    for (int i = 0; i < 5; i++) {
      x.put(0, i, 10 + i);
    }
    Due.due("to another", x.move(0, 1, 1, 0, 4), 4);
    row(x, 1, 8, 11, 12, 13, 14);
    Due.due("upwards in its own", x.move(0, 0, 0, 1, 4), 4);
    row(x, 0, 8, 10, 10, 11, 12, 13);
    Due.due("downwards in its own", x.move(0, 1, 0, 0, 4), 4);
    row(x, 0, 8, 10, 11, 12, 13, 13);
    Due.due("none", x.move(0, 5, 1, 4, 0), 0);
    int[][] beyond = {{0, 0, 1, 0, 5}, {0, 2, 1, 0, 4}, {0, 0, 1, 1, 4}, {0, -1, 1, 0, 1}, {0, 0, 1, -1, 1}, {0, 0, 1, 0, -1},
        {0, 6, 1, 0, 0}, {0, 0, 1, 5, 0}, {0, 1, 1, 0, Integer.MAX_VALUE}, {0, Integer.MAX_VALUE, 1, 0, 1},
        {0, 0, 1, Integer.MAX_VALUE, 1}, {-1, 0, 0, 0, 1}, {4, 0, 0, 0, 1}, {0, 0, -1, 0, 1}, {0, 0, 4, 0, 1}};
    x.sheet(3, 0, 0);
    for (int[] a : beyond) {
      Due.due("move(" + a[0] + ", " + a[1] + ", " + a[2] + ", " + a[3] + ", " + a[4] + ")",
          x.move(a[0], a[1], a[2], a[3], a[4]), Due.BEYOND);
    }
    Due.due("no such sheet ahead of missing", x.move(3, 0, 4, 0, 1), Due.BEYOND);
    Due.due("no such sheet ahead of missing", x.move(-1, 0, 3, 0, 1), Due.BEYOND);
    Due.due("missing", x.move(3, 0, 0, 0, 1), Due.NONE);
    Due.due("missing", x.move(2, 0, 3, 0, -1), Due.NONE);
    Due.due("both missing", x.move(3, 0, 3, 0, 0), Due.NONE);
    Due.due("unlike bits ahead of beyond", x.move(0, 0, 2, 0, -1), Due.KIND);
    Due.due("unlike bits", x.move(2, 0, 0, 0, 1), Due.KIND);
    row(x, 0, 8, 10, 11, 12, 13, 13);
    row(x, 1, 8, 11, 12, 13, 14);
  }

  private static void dears() {
    Due.part("promise 31");
    OilMemories x = three();
    Due.due("dears(-1)", x.dears(-1), Due.BEYOND);
    Due.due("dears(4)", x.dears(4), Due.BEYOND);
    Due.due("dears(0)", x.dears(0), Due.NONE);
    x.sheet(0, 32, 2);
    x.put(0, 0, 99);
    Due.due("two of three", x.dears(0), 2);
    Due.due("memoryIs(0, 4)", x.memoryIs(0, 4), 99);
    Due.due("memoryIs(1, 4)", x.memoryIs(1, 4), 0);
    x.sheet(0, 32, 4);
    for (int i = 0; i < 4; i++) {
      x.put(0, i, 20 + i);
    }
    Due.due("three of four", x.dears(0), 3);
    Due.due("memoryIs(2, 4)", x.memoryIs(2, 4), 22);
    int[] bad = {100, -1, Integer.MAX_VALUE, Integer.MIN_VALUE};
    for (int v : bad) {
      x.put(0, 0, 5);
      x.put(0, 1, v);
      x.put(0, 2, 7);
      Due.due("up to " + v, x.dears(0), 1);
      Due.due("memoryIs(0, 4)", x.memoryIs(0, 4), 5);
      Due.due("memoryIs(1, 4)", x.memoryIs(1, 4), 21);
      Due.due("memoryIs(2, 4)", x.memoryIs(2, 4), 22);
    }
    x.sheet(0, 8, 0);
    Due.due("no numbers", x.dears(0), 0);
    Due.due("told(1)", x.told(1), 2);
    Due.due("told(2)", x.told(2), 1);
  }

  private static void judge() {
    Due.part("promise 32");
    OilMemories x = three();
    Due.due("judge(-1)", x.judge(-1), Due.BEYOND);
    Due.due("judge(4)", x.judge(4), Due.BEYOND);
    Due.due("judge(0)", x.judge(0), Due.NONE);
    x.sheet(0, 16, 4);
    int[] lights = {11, 12, 15};
    for (int i = 0; i < 3; i++) {
      Due.due("judge(0)", x.judge(0), i);
      x.put(0, i, lights[i]);
    }
    Due.due("no MEMORY 3", x.judge(0), 3);
    x.put(0, 1, 13);
    Due.due("from the first on", x.judge(0), 1);
    x.put(0, 0, 10);
    Due.due("none is right", x.judge(0), 0);
    x.sheet(0, 8, 2);
    x.put(0, 0, 99);
    x.put(0, 1, 99);
    Due.text(x, 0, "l*l");
    Due.due("by a text", x.judge(0), 2);
    Due.text(x, 0, "0");
    x.sheet(0, 8, 2);
    Due.due("no number 2, though LIGHT is 0", x.judge(0), 2);
    x.sheet(0, 8, 0);
    Due.due("no numbers", x.judge(0), 0);
  }

  private static void image() {
    Due.part("promises 33 and 34");
    OilMemories x = three();
    Due.due("restore()", x.restore(), Due.NONE);
    Due.text(x, 0, "l+1");
    Due.feed(x, "w+");
    x.tell(1);
    x.tell(2);
    x.nights(5);
    x.seed(99);
    x.blows(3);
    x.sheet(0, 8, 1);
    Due.due("image()", x.image(), 1);
    x.untell(0);
    Due.text(x, 1, "7");
    Due.due("a fault", Due.text(x, 1, "7"), 1);
    x.check();
    x.nights(1);
    x.seed(5);
    x.blows(9);
    x.memory(69, 15, 9999);
    x.fills(0, 50);
    x.put(0, 0, 42);
    x.voice(1, 2, 7);
    Due.due("restore()", x.restore(), 5);
    int[] counts = {3, 3, 5, 5, 2, 2, 3, 99};
    for (int what = 0; what < counts.length; what++) {
      Due.due("count(" + what + ")", x.count(what), counts[what]);
    }
    Due.due("the text", x.law(0, 5, 0, 0), 6);
    Due.due("no text", x.law(1, 5, 0, 0), 20);
    Due.due("the tape is w+", Due.text(x, 1, "1"), 1);
    Due.due("w+1", x.law(1, 5, 0, 0), 6);
    Due.due("memoryIs(0, 3)", x.memoryIs(0, 3), 0);
    Due.due("what waits", x.check(), 1);
    Due.due("sheets stay", number(x, 0, 8, 0), 42);
    Due.due("the trace stays", x.body(2), 10);
    Due.due("told stays", x.told(2), 1);
    Due.due("how often stays", x.image(), 2);
  }

  private static void imageOfMemories() {
    OilMemories x = new OilMemories();
    x.memory(23, 5, 678);
    x.memory(61, 9, 1112);
    x.image();
    x.become(0, 45);
    x.become(1, 12);
    x.trim(0, 0);
    x.tells(1, 1);
    x.fills(0, 1);
    x.dear(1, 2);
    x.restore();
    int[][] is = {{2, 3, 5, 6, 78, 26, 0}, {6, 1, 9, 11, 12, 5, 0}};
    for (int i = 0; i < is.length; i++) {
      for (int what = 0; what < 7; what++) {
        Due.due("memoryIs(" + i + ", " + what + ")", x.memoryIs(i, what), is[i][what]);
      }
    }
  }

  private static void restore() {
    OilMemories x = three();
    x.nights(2);
    x.image();
    x.nights(2);
    Due.due("restore()", x.restore(), 2);
    x.nights(3);
    Due.due("count(2)", x.count(2), 5);
    Due.due("the image stays", x.restore(), 2);
    Due.due("count(2)", x.count(2), 2);
    x.nights(4);
    Due.due("image()", x.image(), 2);
    x.nights(1);
    Due.due("in place of one ahead", x.restore(), 6);
    Due.due("DARK", x.count(3), 6);
    OilMemories empty = new OilMemories();
    empty.image();
    empty.memory(0, 1, 0);
    Due.text(empty, 0, "3");
    Due.due("an image of a new one", empty.restore(), 0);
    Due.due("count(0)", empty.count(0), 0);
    Due.due("untell(0)", empty.untell(0), 0);
    Due.due("the next is number 0", empty.memory(55, 2, 304), 0);
    Due.due("and its own", empty.memoryIs(0, 4), 4);
  }

  private static void tell() {
    Due.part("promise 35");
    OilMemories x = three();
    for (int i = 1; i <= 24; i++) {
      Due.due("tell(0)", x.tell(0), i);
    }
    Due.due("the 25th", x.tell(0), Due.FULL);
    Due.due("count(5)", x.count(5), 24);
    Due.due("told(4)", x.told(4), 1);
    Due.due("there are but three", x.check(), 4);
    Due.due("tell(MIN)", x.tell(Integer.MIN_VALUE), 1);
  }

  private static void check() {
    Due.part("promise 36");
    OilMemories x = three();
    x.fills(0, 4);
    x.fills(1, 5);
    x.fills(2, 6);
    Due.due("none wait", x.check(), 0);
    int[][] rows = {{0, 4}, {0, 4, 5}, {0, 4, 5, 6}, {4, 4, 5, 6, 0}, {1, 3, 5, 6}, {2, 4, 6, 5}, {3, 4, 5, 5}, {1, 5, 5, 6}};
    for (int[] row : rows) {
      for (int i = 1; i < row.length; i++) {
        Due.due("tell", x.tell(row[i]), i);
      }
      Due.due("check()", x.check(), row[0]);
      Due.due("none wait", x.count(5), 0);
    }
    OilMemories none = new OilMemories();
    none.tell(0);
    Due.due("no MEMORY 0", none.check(), 1);
  }

  private static void count() {
    Due.part("promise 37");
    OilMemories x = three();
    x.blows(6);
    x.memory(0, 1, 2500);
    Due.text(x, 1, "5");
    x.nights(30);
    x.feed(0L, 7);
    x.tell(1);
    x.tell(1);
    x.voice(0, 2, 0);
    x.seed(-7);
    int[] counts = {4, 6, 30, 5, 7, 2, 3, -7};
    for (int what = 0; what < counts.length; what++) {
      Due.due("count(" + what + ")", x.count(what), counts[what]);
    }
    Due.due("count(8)", x.count(8), Due.BEYOND);
    Due.due("count(-1)", x.count(-1), Due.BEYOND);
    x.seed(Due.NONE);
    Due.due("count(7)", x.count(7), Due.NONE);
    Due.due("told(2)", x.told(2), 0);
  }

  private static void told() {
    Due.part("promise 38");
    OilMemories x = three();
    x.blows(10);
    x.restore();
    x.restore();
    x.trim(0, 0);
    x.trim(0, 0);
    x.trim(0, 0);
    for (int i = 0; i < 28; i++) {
      x.tell(0);
    }
    for (int i = 0; i < 5; i++) {
      x.as(0, 6);
    }
    x.become(0, 0);
    for (int i = 0; i < 6; i++) {
      x.voice(0, 3, i);
    }
    for (int k = 1; k <= 6; k++) {
      Due.due("told(" + k + ")", x.told(k), k);
    }
    Due.due("told(0)", x.told(0), Due.BEYOND);
    Due.due("told(7)", x.told(7), Due.BEYOND);
    Due.due("told(-1)", x.told(-1), Due.BEYOND);
    Due.due("told(MIN)", x.told(Integer.MIN_VALUE), Due.BEYOND);
    Due.due("counted, too", x.told(1), 5);
    Due.due("a fault is no ERROR", Due.text(x, 0, "?"), -10);
    Due.due("told(1)", x.told(1), 5);
  }
}
