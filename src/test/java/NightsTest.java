/** Promises 15 to 25: nights, what is, what would be. */
public final class NightsTest {
  public static void main(String[] args) {
    nights();
    nightsToTheEnd();
    loose();
    looseWithOneMemory();
    looseWithoutMemories();
    seed();
    tonight();
    tonightByTheLeastBits();
    tonightWithSmoke();
    wantedByText();
    lasts();
    without();
    then();
    has();
    mixes();
    odds();
    fits();
    Due.end();
  }

  private static void nights() {
    Due.part("promise 15");
    OilMemories x = new OilMemories();
    x.memory(5, 1, 210);
    x.memory(0, 1, 305);
    Due.due("nights(0)", x.nights(0), Due.BEYOND);
    Due.due("nights(-1)", x.nights(-1), Due.BEYOND);
    Due.due("nights(61)", x.nights(61), Due.BEYOND);
    Due.due("count(2)", x.count(2), 0);
    Due.due("nights(1)", x.nights(1), 1);
    Due.due("the least dear burns", x.memoryIs(1, 3), 2);
    Due.due("the other doesn't", x.memoryIs(0, 3), 2);
    Due.due("nights(6)", x.nights(6), 4);
    Due.due("count(2)", x.count(2), 7);
    Due.due("count(3)", x.count(3), 2);
    Due.due("memoryIs(0, 3)", x.memoryIs(0, 3), 0);
    Due.due("memoryIs(1, 3)", x.memoryIs(1, 3), 0);
    x.fills(0, 1);
    x.fills(1, 1);
    Due.text(x, 1, "20");
    Due.due("both in a night", x.nights(1), 1);
    Due.due("memoryIs(0, 3)", x.memoryIs(0, 3), 0);
    Due.due("memoryIs(1, 3)", x.memoryIs(1, 3), 0);
    Due.text(x, 1, "0");
    Due.due("nothing is wanted, and lit", x.nights(60), 60);
    Due.due("count(3)", x.count(3), 2);
    Due.due("count(7)", x.count(7), 1);
  }

  private static void nightsToTheEnd() {
    OilMemories x = new OilMemories();
    for (int i = 0; i < 166; i++) {
      x.nights(60);
    }
    Due.due("count(2)", x.count(2), 9960);
    Due.due("nights(40)", x.nights(40), Due.STATE);
    Due.due("nights(9)", x.nights(9), 0);
    x.image();
    Due.due("nights(31)", x.nights(31), Due.STATE);
    Due.due("loose(30) to the end", x.loose(30), 0);
    Due.due("count(2)", x.count(2), 9999);
    x.restore();
    Due.due("nights(30) to the end", x.nights(30), 0);
    int z = x.count(7);
    Due.due("count(2)", x.count(2), 9999);
    Due.due("count(3)", x.count(3), 9999);
    Due.due("nights(1)", x.nights(1), Due.STATE);
    Due.due("loose(1)", x.loose(1), Due.STATE);
    Due.due("nights(0)", x.nights(0), Due.BEYOND);
    Due.due("loose(0)", x.loose(0), Due.BEYOND);
    Due.due("no draw", x.count(7), z);
    Due.due("told(3)", x.told(3), 4);
    x.blows(0);
    x.memory(0, 1, 5000);
    Due.part("NIGHT beyond 9999 in thought");
    Due.due("lasts()", x.lasts(), 50);
    Due.due("then(0, 49)", x.then(0, 49), 1);
    Due.text(x, 1, "(d=4)*99");
    Due.due("lasts() to a night 10000", x.lasts(), 1);
    Due.text(x, 1, "(d=0)*99");
    Due.due("lasts() to a night 10003", x.lasts(), 4);
    Due.due("count(2)", x.count(2), 9999);
    Due.due("count(3)", x.count(3), 9999);
  }

  private static int z;

  private static int draw() {
    z = z * 1103515245 + 12345;
    return z >>> 8;
  }

  private static void loose() {
    Due.part("promise 16");
    OilMemories x = new OilMemories();
    Due.due("loose(0)", x.loose(0), Due.BEYOND);
    Due.due("loose(31)", x.loose(31), Due.BEYOND);
    Due.due("loose(-1)", x.loose(-1), Due.BEYOND);
    Due.due("count(7)", x.count(7), 1);
    x.memory(0, 1, 9801);
    x.memory(0, 1, 2);
    x.memory(0, 1, 5003);
    Due.text(x, 1, "300");
    int[] left = {98, 0, 50};
    z = 1;
    for (int i = 0; i < 100; i++) {
      int weather = draw() % 10;
      if (draw() % 8 == 0) {
        int one = draw() % 3;
        left[one] = Math.min(99, left[one] + draw() % 5);
      }
      Due.due("loose(1)", x.loose(1), 0);
      Due.due("WEATHER", x.count(1), weather);
      Due.due("z", x.count(7), z);
      Due.due("LEFT", x.memoryIs(i % 3, 3), left[i % 3]);
    }
    for (int i = 0; i < 3; i++) {
      Due.due("LEFT of " + i, x.memoryIs(i, 3), left[i]);
    }
    Due.due("held at 99", left[0], 99);
    Due.holds("there were fillings", left[1] > 0);
    Due.due("count(2)", x.count(2), 100);
    Due.text(x, 1, "0");
    Due.due("loose(30)", x.loose(30), 30);
    Due.due("count(2)", x.count(2), 130);
    Due.due("count(3)", x.count(3), 100);
  }

  private static void looseWithOneMemory() {
    OilMemories x = new OilMemories();
    x.memory(0, 1, 0);
    Due.text(x, 1, "300");
    int left = 0;
    z = 1;
    for (int i = 0; i < 30; i++) {
      draw();
      if (draw() % 8 == 0) {
        draw();
        left += draw() % 5;
      }
    }
    Due.due("loose(30)", x.loose(30), 0);
    Due.due("z", x.count(7), z);
    Due.due("LEFT", x.memoryIs(0, 3), left);
    Due.holds("there were fillings", left > 0);
  }

  private static void looseWithoutMemories() {
    OilMemories x = new OilMemories();
    x.seed(12345);
    z = 12345;
    int weather = 0;
    for (int i = 0; i < 30; i++) {
      weather = draw() % 10;
    }
    Due.due("loose(30)", x.loose(30), 0);
    Due.due("one draw a night", x.count(7), z);
    Due.due("WEATHER", x.count(1), weather);
  }

  private static void seed() {
    Due.part("promise 17");
    OilMemories x = new OilMemories();
    Due.due("seed(-5)", x.seed(-5), 1);
    Due.due("count(7)", x.count(7), -5);
    Due.due("seed(-1000000001)", x.seed(Due.BEYOND), -5);
    Due.due("seed(MIN)", x.seed(Integer.MIN_VALUE), Due.BEYOND);
    Due.due("no ERROR", x.told(1), 0);
    Due.due("loose(1)", x.loose(1), 0);
    Due.due("count(7)", x.count(7), Integer.MIN_VALUE + 12345);
    Due.due("a draw is not below 0", x.count(1), (Integer.MIN_VALUE + 12345 >>> 8) % 10);
  }

  private static void tonight() {
    Due.part("promise 18");
    OilMemories x = new OilMemories();
    Due.due("tonight(-1)", x.tonight(-1), Due.BEYOND);
    Due.due("tonight(4)", x.tonight(4), Due.BEYOND);
    for (int what = 0; what < 3; what++) {
      Due.due("tonight(" + what + ")", x.tonight(what), Due.NONE);
    }
    Due.due("tonight(3)", x.tonight(3), 5);
    Due.due("told(1)", x.told(1), 2);
    Due.due("told(2)", x.told(2), 3);
    x.memory(9, 1, 109);
    x.memory(0, 1, 104);
    x.memory(0, 1, 104);
    Due.text(x, 1, "15");
    found(x, 6, 8, 20);
    x.dear(1, 5);
    found(x, 1, 9, 19);
    x.dear(0, 10);
    found(x, 6, 9, 20);
    x.fills(1, 0);
    found(x, 1, 10, 19);
    x.fills(0, 0);
    Due.due("10 of 15", x.tonight(0), Due.NONE);
    Due.text(x, 1, "10");
    found(x, 4, 4, 10);
    Due.text(x, 1, "11");
    Due.due("10 of 11", x.tonight(1), Due.NONE);
    Due.due("tonight(3)", x.tonight(3), 11);
  }

  private static void found(OilMemories x, int set, int dear, int gives) {
    Due.due("tonight(0)", x.tonight(0), set);
    Due.due("tonight(1)", x.tonight(1), dear);
    Due.due("tonight(2)", x.tonight(2), gives);
  }

  private static void tonightByTheLeastBits() {
    OilMemories x = new OilMemories();
    for (int i = 0; i < 9; i++) {
      x.memory(0, 1, 100);
    }
    Due.text(x, 1, "0");
    found(x, 0, 0, 0);
    Due.text(x, 1, "1");
    found(x, 1, 0, 10);
    Due.text(x, 1, "25");
    found(x, 7, 0, 30);
    Due.text(x, 1, "90");
    found(x, 511, 0, 90);
    Due.text(x, 1, "91");
    Due.due("tonight(0)", x.tonight(0), Due.NONE);
    Due.text(x, 1, "11");
    x.dear(0, 1);
    found(x, 6, 0, 20);
    x.fills(1, 0);
    found(x, 12, 0, 20);
    for (int i = 2; i < 9; i++) {
      x.dear(i, 9 - i);
    }
    found(x, 257, 2, 20);
    x.dear(8, 3);
    found(x, 129, 3, 20);
  }

  private static void tonightWithSmoke() {
    OilMemories x = new OilMemories();
    x.memory(39, 1, 100);
    x.memory(5, 1, 100);
    x.memory(5, 1, 100);
    Due.text(x, 1, "0");
    found(x, 0, 0, 0);
    Due.text(x, 1, "28");
    found(x, 6, 0, 30);
    x.blows(9);
    Due.text(x, 1, "24");
    found(x, 6, 0, 24);
    Due.text(x, 1, "25");
    Due.due("tonight(0)", x.tonight(0), Due.NONE);
  }

  private static void wantedByText() {
    OilMemories x = new OilMemories();
    int[] weathers = {0, 1, 9};
    for (int w : weathers) {
      x.blows(w);
      Due.due("WANTED without a text", x.tonight(3), 5 + 3 * w);
    }
    Due.text(x, 1, "w*10+d*100+k");
    Due.due("WANTED of 9, 0, 0", x.tonight(3), 90);
    x.memory(0, 5, 100);
    x.memory(0, 4, 100);
    x.memory(0, 8, 0);
    Due.due("WANTED of 9, 0, 2", x.tonight(3), 92);
    x.fills(2, 1);
    Due.due("WANTED of 9, 0, 3", x.tonight(3), 93);
    x.fills(0, 0);
    Due.due("WANTED of 9, 0, 2", x.tonight(3), 92);
    x.blows(0);
    x.nights(8);
    Due.due("WANTED of NIGHT 8", x.tonight(3), 100);
    x.fills(2, 1);
    Due.due("WANTED of NIGHT 8", x.tonight(3), 101);
    x.blows(9);
    Due.due("WANTED of 9, 1, 1", x.tonight(3), 191);
    x.nights(1);
    Due.due("WANTED held at 199", x.tonight(3), 199);
  }

  private static void lasts() {
    Due.part("promise 19");
    OilMemories x = new OilMemories();
    Due.due("lasts()", x.lasts(), 0);
    x.memory(0, 1, 700);
    x.memory(0, 1, 500);
    Due.due("lasts()", x.lasts(), 12);
    x.blows(4);
    Due.due("lasts() of 17 wanted", x.lasts(), 5);
    x.blows(9);
    Due.due("lasts() of 32 wanted", x.lasts(), 0);
    x.blows(0);
    x.fills(0, 59);
    x.fills(1, 0);
    Due.due("lasts()", x.lasts(), 59);
    x.fills(0, 60);
    Due.due("lasts()", x.lasts(), 60);
    x.fills(0, 99);
    Due.due("lasts()", x.lasts(), 60);
    Due.due("count(2)", x.count(2), 0);
    Due.due("count(3)", x.count(3), 0);
    Due.due("memoryIs(0, 3)", x.memoryIs(0, 3), 99);
    x.fills(0, 20);
    Due.text(x, 1, "(d=5)*99");
    Due.due("a dark night ahead of lit ones", x.lasts(), 5);
    x.untell(1);
    Due.text(x, 0, "l*!(n=3)");
    Due.due("LIGHT of NIGHTS ahead", x.lasts(), 3);
  }

  private static void without() {
    Due.part("promise 20");
    OilMemories x = new OilMemories();
    x.memory(0, 1, 700);
    x.memory(0, 2, 501);
    Due.due("without(0)", x.without(0), 7);
    Due.due("without(1)", x.without(1), 5);
    Due.due("without(2)", x.without(2), Due.BEYOND);
    Due.due("without(-1)", x.without(-1), Due.BEYOND);
    Due.text(x, 1, "10+(k<2)*189");
    Due.due("lasts()", x.lasts(), 7);
    x.fills(0, 1);
    Due.due("lasts()", x.lasts(), 1);
    Due.due("it is still there, never burnt", x.without(0), -4);
    Due.due("without(1)", x.without(1), 0);
    x.fills(0, 0);
    Due.due("without(0)", x.without(0), 0);
    Due.due("memoryIs(1, 3)", x.memoryIs(1, 3), 5);
    Due.due("count(2)", x.count(2), 0);
  }

  private static void then() {
    Due.part("promise 21");
    OilMemories x = new OilMemories();
    x.memory(0, 1, 300);
    x.memory(0, 1, 9901);
    int[] first = {3, 2, 1, 0, 0};
    int[] second = {99, 99, 99, 99, 98};
    for (int n = 0; n < 5; n++) {
      Due.due("then(0, " + n + ")", x.then(0, n), first[n]);
      Due.due("then(1, " + n + ")", x.then(1, n), second[n]);
    }
    Due.due("then(1, 60)", x.then(1, 60), 42);
    Due.due("then(1, 61)", x.then(1, 61), Due.BEYOND);
    Due.due("then(1, -1)", x.then(1, -1), Due.BEYOND);
    Due.due("then(2, 0)", x.then(2, 0), Due.BEYOND);
    Due.due("then(-1, 0)", x.then(-1, 0), Due.BEYOND);
    Due.due("memoryIs(1, 3)", x.memoryIs(1, 3), 99);
    Due.text(x, 1, "(d=1)*199");
    x.dear(0, 0);
    Due.text(x, 0, "50");
    Due.due("behind a dark night", x.then(0, 9), 3);
    Due.due("count(3)", x.count(3), 0);
  }

  private static void has() {
    Due.part("promise 22");
    OilMemories x = new OilMemories();
    Due.due("has(3)", x.has(3), 0);
    x.memory(14, 7, 500);
    x.memory(23, 2, 200);
    x.memory(65, 10, 5500);
    x.memory(9, 2, 0);
    Due.due("has(0)", x.has(0), 31);
    Due.due("has(1)", x.has(1), 31 + 52 + 247);
    Due.due("has(2)", x.has(2), 31);
    Due.due("has(3)", x.has(3), 247);
    x.blows(9);
    Due.due("by LIGHT, whatever the SMOKE", x.has(3), 247);
    Due.text(x, 0, "o");
    Due.due("has(1) by a text", x.has(1), 5 + 2 + 55);
    Due.due("has(4)", x.has(4), Due.BEYOND);
    Due.due("has(-1)", x.has(-1), Due.BEYOND);
  }

  private static void mixes() {
    Due.part("promise 23");
    OilMemories x = new OilMemories();
    x.memory(42, 2, 100);
    x.memory(14, 7, 100);
    mixed(x, 0, 15, 17 + 30 - 3 - 4);
    mixed(x, 1, 1, 19);
    Due.text(x, 0, "(o=2)*50");
    mixed(x, 0, 3, 48);
    mixed(x, 1, 3, 50);
    Due.text(x, 0, "(o=3)*5+l*0");
    mixed(x, 1, 7, 2);
    Due.text(x, 0, "0");
    x.become(0, 39);
    x.blows(9);
    mixed(x, 0, 1, -14);
    Due.text(x, 0, "o");
    mixed(x, 0, 15, -10);
    Due.due("memoryIs(0, 2)", x.memoryIs(0, 2), 2);
    Due.due("memoryIs(1, 2)", x.memoryIs(1, 2), 7);
    Due.due("mixes(0, 2)", x.mixes(0, 2), Due.BEYOND);
    Due.due("mixes(0, -1)", x.mixes(0, -1), Due.BEYOND);
    Due.due("mixes(2, 0)", x.mixes(2, 0), Due.BEYOND);
    Due.due("mixes(-1, 0)", x.mixes(-1, 0), Due.BEYOND);
  }

  private static void mixed(OilMemories x, int memory, int set, int much) {
    Due.due("mixes(" + memory + ", 0)", x.mixes(memory, 0), set);
    Due.due("mixes(" + memory + ", 1)", x.mixes(memory, 1), much);
  }

  private static void odds() {
    Due.part("promise 24");
    OilMemories x = new OilMemories();
    Due.due("odds(2)", x.odds(2), Due.BEYOND);
    Due.due("odds(-1)", x.odds(-1), Due.BEYOND);
    fraction(x, "none", 0, 1);
    x.memory(5, 1, 100);
    x.blows(7);
    fraction(x, "15 of it", 2, 5);
    Due.due("WEATHER stays", x.count(1), 7);
    Due.text(x, 1, "w<9");
    x.fills(0, 0);
    fraction(x, "w<9", 1, 10);
    String[] texts = {"1", "w>0", "w>1", "w>2", "w>3", "w>4", "w>5", "w>6", "w>7", "w>8", "w>9"};
    int[] above = {0, 1, 1, 3, 2, 1, 3, 7, 4, 9, 1};
    int[] below = {1, 10, 5, 10, 5, 2, 5, 10, 5, 10, 1};
    for (int i = 0; i < texts.length; i++) {
      Due.text(x, 1, texts[i]);
      fraction(x, texts[i], above[i], below[i]);
    }
  }

  private static void fraction(OilMemories x, String what, int above, int below) {
    Due.due("odds(0), " + what, x.odds(0), above);
    Due.due("odds(1), " + what, x.odds(1), below);
  }

  private static void fits() {
    Due.part("promise 25");
    OilMemories x = new OilMemories();
    x.memory(0, 1, 300);
    x.memory(0, 1, 9901);
    Due.due("fits(4)", x.fits(4), Due.BEYOND);
    Due.due("fits(-1)", x.fits(-1), Due.BEYOND);
    Due.due("fits(0), missing", x.fits(0), Due.NONE);
    x.sheet(0, 8, 2);
    int[][] rows = {{3, 99, 0}, {1, 99, 2}, {0, 99, 3}, {0, 98, 4}, {0, 42, 60}, {0, 41, Due.NONE}, {3, 98, Due.NONE},
        {2, 98, Due.NONE}, {3, 355, 0}};
    for (int[] row : rows) {
      x.put(0, 0, row[0]);
      x.put(0, 1, row[1]);
      Due.due("fits(0) of " + row[0] + ", " + row[1], x.fits(0), row[2]);
    }
    x.sheet(1, 32, 1);
    Due.due("the first night that fits", x.fits(1), 3);
    x.put(1, 0, 259);
    Due.due("259 of 32 bits", x.fits(1), Due.NONE);
    x.sheet(2, 16, 3);
    x.put(2, 0, 3);
    x.put(2, 1, 99);
    Due.due("no MEMORY 2", x.fits(2), Due.NONE);
    x.sheet(3, 8, 0);
    Due.due("no numbers", x.fits(3), 0);
    Due.due("memoryIs(1, 3)", x.memoryIs(1, 3), 99);
    Due.due("count(2)", x.count(2), 0);
  }
}
