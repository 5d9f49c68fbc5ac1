/** Promises 1 to 10: a new object, and memories. */
public final class MemoriesTest {
  public static void main(String[] args) {
    aNewObject();
    memory();
    memoryFillsUp();
    memoryIs();
    burns();
    smokes();
    lightByText();
    become();
    as();
    fills();
    dear();
    trim();
    tells();
    blows();
    Due.end();
  }

  private static void aNewObject() {
    Due.part("promise 1");
    OilMemories x = new OilMemories();
    for (int k = 1; k <= 6; k++) {
      Due.due("told(" + k + ")", x.told(k), 0);
    }
    for (int what = 0; what <= 6; what++) {
      Due.due("count(" + what + ")", x.count(what), 0);
    }
    Due.due("count(7)", x.count(7), 1);
    Due.due("untell(0)", x.untell(0), 0);
    Due.due("untell(1)", x.untell(1), 0);
    Due.due("law(0, 7, 1, 1)", x.law(0, 7, 1, 1), 7);
    Due.due("law(1, 2, 1, 1)", x.law(1, 2, 1, 1), 11);
    Due.due("check()", x.check(), 0);
    Due.due("memoryIs(0, 0)", x.memoryIs(0, 0), Due.BEYOND);
    Due.due("body(0)", x.body(0), Due.NONE);
    Due.due("restore()", x.restore(), Due.NONE);
    for (int sheet = 0; sheet <= 3; sheet++) {
      Due.due("put(" + sheet + ", 0, 0)", x.put(sheet, 0, 0), Due.NONE);
    }
    Due.due("image()", x.image(), 1);
  }

  private static void memory() {
    Due.part("promise 2");
    OilMemories x = new OilMemories();
    int[][] beyond = {{-1, 1, 0}, {70, 1, 0}, {0, 0, 0}, {0, 16, 0}, {0, -1, 0}, {0, 1, -1}, {0, 1, 10000},
        {Integer.MIN_VALUE, 1, 0}, {0, Integer.MAX_VALUE, 0}, {0, 1, Integer.MIN_VALUE}};
    for (int[] a : beyond) {
      Due.due("memory(" + a[0] + ", " + a[1] + ", " + a[2] + ")", x.memory(a[0], a[1], a[2]), Due.BEYOND);
    }
    Due.due("count(0)", x.count(0), 0);
    Due.due("memory(69, 15, 9999)", x.memory(69, 15, 9999), 0);
    Due.due("memory(0, 1, 0)", x.memory(0, 1, 0), 1);
    Due.due("memory(37, 6, 1203)", x.memory(37, 6, 1203), 2);
    Due.due("count(0)", x.count(0), 3);
    int[][] is = {{6, 9, 15, 99, 99}, {0, 0, 1, 0, 0}, {3, 7, 6, 12, 3}};
    for (int i = 0; i < is.length; i++) {
      for (int what = 0; what < 5; what++) {
        Due.due("memoryIs(" + i + ", " + what + ")", x.memoryIs(i, what), is[i][what]);
      }
    }
  }

  private static void memoryFillsUp() {
    OilMemories x = new OilMemories();
    for (int i = 0; i < 9; i++) {
      Due.due("memory(" + i + ", 1, 0)", x.memory(i, 1, 0), i);
    }
    Due.due("the tenth", x.memory(0, 1, 0), Due.FULL);
    Due.due("beyond ahead of full", x.memory(70, 1, 0), Due.BEYOND);
    Due.due("count(0)", x.count(0), 9);
    Due.due("memoryIs(8, 1)", x.memoryIs(8, 1), 8);
    Due.due("memoryIs(9, 1)", x.memoryIs(9, 1), Due.BEYOND);
    Due.due("told(4)", x.told(4), 1);
  }

  private static void memoryIs() {
    Due.part("promise 3");
    OilMemories x = new OilMemories();
    x.memory(14, 7, 520);
    int[] is = {1, 4, 7, 5, 20, 19, 3};
    for (int what = 0; what < is.length; what++) {
      Due.due("memoryIs(0, " + what + ")", x.memoryIs(0, what), is[what]);
    }
    Due.due("memoryIs(0, -1)", x.memoryIs(0, -1), Due.BEYOND);
    Due.due("memoryIs(0, 7)", x.memoryIs(0, 7), Due.BEYOND);
    Due.due("memoryIs(-1, 0)", x.memoryIs(-1, 0), Due.BEYOND);
    Due.due("memoryIs(1, 0)", x.memoryIs(1, 0), Due.BEYOND);
    Due.due("told(1)", x.told(1), 4);
  }

  private static void burns() {
    OilMemories x = new OilMemories();
    x.memory(7, 15, 9900);
    int[] burns = {17, 22, 34, 8, 52, 34, 13};
    for (int kind = 0; kind <= 6; kind++) {
      x.become(0, 10 * kind + 7);
      Due.due("LIGHT of kind " + kind, x.memoryIs(0, 5), burns[kind]);
    }
    int[] farm = {4, 4, 5, 13};
    int[] left = {0, 9, 10, 99};
    for (int i = 0; i < farm.length; i++) {
      x.fills(0, left[i]);
      Due.due("LIGHT of a farm with LEFT " + left[i], x.memoryIs(0, 5), farm[i]);
    }
    x.become(0, 42);
    for (int keeper = 3; keeper > 0; keeper--) {
      x.trim(0, keeper);
      Due.due("LIGHT of a regatta of " + keeper, x.memoryIs(0, 5), 17 + 10 * (keeper - 1));
    }
    x.become(0, 51);
    for (int night = 1; night <= 11; night++) {
      x.fills(0, 0);
      x.nights(1);
      Due.due("LIGHT of a mother in NIGHT " + night, x.memoryIs(0, 5), 22 + night % 5);
    }
  }

  private static void smokes() {
    OilMemories x = new OilMemories();
    x.memory(7, 3, 0);
    x.memory(7, 7, 0);
    x.memory(7, 15, 0);
    int[] weathers = {0, 2, 3, 8, 9};
    for (int w : weathers) {
      x.blows(w);
      int e = w / 3;
      int[][] smokes = {{e, e, 0, e + 9, e + 2, w, 0}, {e, e + 3, 0, e + 9, e + 6, w, 0}, {e, e + 3, 0, e + 9, e + 7, w, 0}};
      for (int i = 0; i < smokes.length; i++) {
        for (int kind = 0; kind <= 6; kind++) {
          x.become(i, 10 * kind + 7);
          Due.due("SMOKE of kind " + kind + ", memory " + i + ", weather " + w, x.memoryIs(i, 6), smokes[i][kind]);
        }
      }
    }
  }

  private static void lightByText() {
    OilMemories x = new OilMemories();
    x.memory(49, 11, 0);
    Due.due("text(0)", Due.text(x, 0, "l*100+o*10+n-5000"), 1);
    Due.due("LIGHT held at 0", x.memoryIs(0, 5), 0);
    Due.text(x, 0, "l-44+o*10+n");
    Due.due("LIGHT of 44, 3, 0", x.memoryIs(0, 5), 30);
    x.nights(9);
    Due.due("LIGHT of 44, 3, 2", x.memoryIs(0, 5), 32);
    Due.text(x, 0, "l*9");
    Due.due("LIGHT held at 99", x.memoryIs(0, 5), 99);
    x.untell(0);
    Due.due("LIGHT without a text", x.memoryIs(0, 5), 44);
  }

  private static void become() {
    Due.part("promise 4");
    OilMemories x = new OilMemories();
    x.memory(23, 5, 678);
    Due.due("become(0, 69)", x.become(0, 69), 2);
    int[] is = {6, 9, 5, 6, 78};
    for (int what = 0; what < is.length; what++) {
      Due.due("memoryIs(0, " + what + ")", x.memoryIs(0, what), is[what]);
    }
    Due.due("become(0, 0)", x.become(0, 0), 6);
    Due.due("become(0, 70)", x.become(0, 70), Due.BEYOND);
    Due.due("become(0, -1)", x.become(0, -1), Due.BEYOND);
    Due.due("become(1, 0)", x.become(1, 0), Due.BEYOND);
    Due.due("become(-1, 0)", x.become(-1, 0), Due.BEYOND);
    Due.due("memoryIs(0, 0)", x.memoryIs(0, 0), 0);
    Due.due("memoryIs(0, 1)", x.memoryIs(0, 1), 0);
  }

  private static void as() {
    Due.part("promise 5");
    boolean[][] of = {
      {true, false, false, false, false, false, false},
      {true, true, false, false, false, false, false},
      {true, false, true, false, false, false, false},
      {true, false, false, true, false, false, false},
      {true, true, false, false, true, false, false},
      {true, false, true, false, false, true, false},
      {true, false, false, false, false, false, true},
    };
    OilMemories x = new OilMemories();
    x.memory(0, 1, 0);
    for (int kind = 0; kind <= 6; kind++) {
      x.become(0, 10 * kind + 3 + kind % 2);
      for (int as = 0; as <= 6; as++) {
        Due.due("a " + kind + " as(0, " + as + ")", x.as(0, as), of[kind][as] ? 3 + kind % 2 : Due.KIND);
      }
    }
    Due.due("as(0, 7)", x.as(0, 7), Due.BEYOND);
    Due.due("as(0, -1)", x.as(0, -1), Due.BEYOND);
    Due.due("as(1, 0)", x.as(1, 0), Due.BEYOND);
    Due.due("as(-1, 0)", x.as(-1, 0), Due.BEYOND);
    Due.due("told(5)", x.told(5), 34);
  }

  private static void fills() {
    Due.part("promise 6");
    OilMemories x = new OilMemories();
    x.memory(0, 1, 1234);
    Due.due("fills(0, 99)", x.fills(0, 99), 12);
    Due.due("fills(0, 0)", x.fills(0, 0), 99);
    Due.due("fills(0, 100)", x.fills(0, 100), Due.BEYOND);
    Due.due("fills(0, -1)", x.fills(0, -1), Due.BEYOND);
    Due.due("fills(1, 5)", x.fills(1, 5), Due.BEYOND);
    Due.due("fills(-1, 5)", x.fills(-1, 5), Due.BEYOND);
    Due.due("memoryIs(0, 3)", x.memoryIs(0, 3), 0);
    Due.due("memoryIs(0, 4)", x.memoryIs(0, 4), 34);
  }

  private static void dear() {
    Due.part("promise 7");
    OilMemories x = new OilMemories();
    x.memory(0, 1, 1234);
    Due.due("dear(0, 99)", x.dear(0, 99), 34);
    Due.due("dear(0, 0)", x.dear(0, 0), 99);
    Due.due("dear(0, 100)", x.dear(0, 100), Due.BEYOND);
    Due.due("dear(0, -1)", x.dear(0, -1), Due.BEYOND);
    Due.due("dear(1, 5)", x.dear(1, 5), Due.BEYOND);
    Due.due("dear(-1, 5)", x.dear(-1, 5), Due.BEYOND);
    Due.due("memoryIs(0, 4)", x.memoryIs(0, 4), 0);
    Due.due("memoryIs(0, 3)", x.memoryIs(0, 3), 12);
  }

  private static void trim() {
    Due.part("promise 8");
    OilMemories x = new OilMemories();
    x.memory(0, 11, 0);
    Due.due("trim(0, 2)", x.trim(0, 2), 0);
    Due.due("trim(0, 3)", x.trim(0, 3), 1);
    Due.due("memoryIs(0, 2)", x.memoryIs(0, 2), 3);
    Due.due("trim(0, 3)", x.trim(0, 3), 0);
    Due.due("trim(0, 0)", x.trim(0, 0), 1);
    Due.due("trim(0, 0)", x.trim(0, 0), 0);
    Due.due("trim(0, 1)", x.trim(0, 1), Due.STATE);
    Due.due("memoryIs(0, 2)", x.memoryIs(0, 2), 2);
    Due.due("trim(0, 4)", x.trim(0, 4), Due.BEYOND);
    Due.due("trim(0, -1)", x.trim(0, -1), Due.BEYOND);
    Due.due("trim(1, 0)", x.trim(1, 0), Due.BEYOND);
    Due.due("trim(-1, 0)", x.trim(-1, 0), Due.BEYOND);
    Due.due("told(3)", x.told(3), 1);
  }

  private static void tells() {
    Due.part("promise 9");
    OilMemories x = new OilMemories();
    x.memory(0, 4, 0);
    Due.due("tells(0, 2)", x.tells(0, 2), 1);
    Due.due("tells(0, 0)", x.tells(0, 0), 0);
    Due.due("tells(0, 3)", x.tells(0, 3), 0);
    Due.due("tells(0, 3)", x.tells(0, 3), 1);
    Due.due("memoryIs(0, 2)", x.memoryIs(0, 2), 13);
    Due.due("tells(0, 4)", x.tells(0, 4), Due.BEYOND);
    Due.due("tells(0, -1)", x.tells(0, -1), Due.BEYOND);
    Due.due("tells(1, 0)", x.tells(1, 0), Due.BEYOND);
    Due.due("tells(-1, 0)", x.tells(-1, 0), Due.BEYOND);
  }

  private static void blows() {
    Due.part("promise 10");
    OilMemories x = new OilMemories();
    Due.due("blows(9)", x.blows(9), 0);
    Due.due("blows(10)", x.blows(10), Due.BEYOND);
    Due.due("blows(-1)", x.blows(-1), Due.BEYOND);
    Due.due("count(1)", x.count(1), 9);
    Due.due("blows(0)", x.blows(0), 9);
    Due.due("blows(4)", x.blows(4), 0);
    Due.due("count(1)", x.count(1), 4);
  }
}
