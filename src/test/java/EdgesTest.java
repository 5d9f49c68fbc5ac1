import java.util.Arrays;

/** Sentences of the document that name an edge which no other test here holds: empty and full, ints that wrap, what is held. */
public final class EdgesTest {
  public static void main(String[] args) {
    burnsAndSmokesAtTheirEdges();
    leftAboveNone();
    asMuchAsIsWanted();
    severalSetsOfAllNine();
    looseBurns();
    looseHoldsLeft();
    drawsWrap();
    aFullText();
    textsThatWrap();
    heldWithin();
    sixtyLookedAt();
    fitsFromNoneToSixty();
    mixesOfManySets();
    hasCutsEach();
    sheetsOf24();
    lowestBits();
    aFullImage();
    anEmptyImage();
    checkOf24();
    voicesThatWrap();
    Due.end();
  }

  private static OilMemories one(int km, int whose, int ld) {
    OilMemories x = new OilMemories();
    x.memory(km, whose, ld);
    return x;
  }

  private static void burnsAndSmokesAtTheirEdges() {
    Due.part("term 1, burns and smoke");
    int[][] burns = {{0, 10}, {9, 19}, {10, 15}, {19, 24}, {20, 20}, {29, 38}, {30, 5}, {31, 5}, {32, 6}, {38, 9}, {39, 9},
        {40, 15}, {49, 24}, {50, 20}, {59, 38}, {60, 4}, {69, 4}};
    for (int[] b : burns) {
      Due.due("LIGHT of km " + b[0], one(b[0], 1, 0).memoryIs(0, 5), b[1]);
    }
    int[][] regattas = {{1, 15}, {8, 15}, {3, 25}, {12, 25}, {7, 35}, {14, 35}, {15, 45}};
    for (int[] r : regattas) {
      Due.due("LIGHT of a regatta, whose " + r[0], one(40, r[0], 0).memoryIs(0, 5), r[1]);
    }
    for (int left = 0; left <= 99; left++) {
      Due.due("LIGHT of a farm, left " + left, one(60, 1, 100 * left).memoryIs(0, 5), 4 + (left - left % 10) / 10);
    }
    for (int whose = 1; whose <= 15; whose++) {
      boolean three = whose == 7 || whose == 11 || whose == 13 || whose == 14 || whose == 15;
      Due.due("SMOKE of a dance, whose " + whose, one(10, whose, 0).memoryIs(0, 6), three ? 3 : 0);
    }
    int[] thirds = {0, 0, 0, 1, 1, 1, 2, 2, 2, 3};
    for (int weather = 0; weather <= 9; weather++) {
      OilMemories x = one(0, 1, 0);
      x.blows(weather);
      Due.due("SMOKE of an evening, weather " + weather, x.memoryIs(0, 6), thirds[weather]);
      x.become(0, 30);
      Due.due("SMOKE of a sorrow, weather " + weather, x.memoryIs(0, 6), thirds[weather] + 2);
      x.become(0, 50);
      Due.due("SMOKE of a mother, weather " + weather, x.memoryIs(0, 6), weather);
    }
  }

  private static void leftAboveNone() {
    Due.part("term 1, LEFT above 0");
    OilMemories x = one(9, 1, 100);
    Due.due("of LEFT 1", x.tonight(0), 1);
    Due.due("lit", x.nights(1), 1);
    Due.due("LEFT", x.memoryIs(0, 3), 0);
    Due.due("of LEFT 0", x.tonight(0), Due.NONE);
    Due.due("dark", x.nights(1), 0);
    Due.due("LEFT stays 0", x.memoryIs(0, 3), 0);
    Due.due("DARK", x.count(3), 1);
    Due.due("NIGHT", x.count(2), 2);
    Due.text(x, 1, "k*7");
    Due.due("k without any LEFT: the empty set", x.tonight(0), 0);
    Due.due("GIVES nothing", x.tonight(2), 0);
    Due.due("is DEAR nothing", x.tonight(1), 0);
    x.fills(0, 1);
    Due.due("k of one", x.tonight(3), 7);
    Due.due("a set of it", x.tonight(0), 1);
  }

  private static void asMuchAsIsWanted() {
    Due.part("term 1, as much as is WANTED or more");
    OilMemories x = one(0, 1, 100);
    x.memory(9, 1, 150);
    int[][] wanted = {{0, 0}, {1, 1}, {10, 1}, {11, 2}, {19, 2}, {20, 3}, {29, 3}, {30, Due.NONE}};
    for (int[] w : wanted) {
      Due.text(x, 1, "" + w[0]);
      Due.due("WANTED " + w[0], x.tonight(0), w[1]);
    }
    Due.text(x, 1, "29");
    Due.due("just as much", x.lasts(), 1);
    Due.text(x, 1, "30");
    Due.due("one too few", x.lasts(), 0);
    Due.due("one too few", x.nights(1), 0);
    Due.due("nothing burns in the dark", x.memoryIs(0, 3) + x.memoryIs(1, 3), 2);
  }

  private static void severalSetsOfAllNine() {
    Due.part("term 1, least dear, least bits");
    OilMemories x = new OilMemories();
    for (int i = 0; i < 9; i++) {
      x.memory(0, 1, 100 + (i == 8 ? 0 : 1));
    }
    Due.due("the least dear one is the last", x.tonight(0), 256);
    Due.text(x, 1, "20");
    Due.due("with the first", x.tonight(0), 257);
    Due.due("DEAR", x.tonight(1), 1);
    Due.text(x, 1, "90");
    Due.due("all", x.tonight(0), 511);
    Due.due("GIVES", x.tonight(2), 90);
    x.fills(8, 0);
    Due.due("all but one", x.tonight(0), Due.NONE);
    Due.text(x, 1, "80");
    Due.due("all but one", x.tonight(0), 255);
    for (int i = 0; i < 9; i++) {
      x.dear(i, 99);
    }
    x.fills(8, 99);
    Due.text(x, 1, "90");
    Due.due("DEAR together isn't held", x.tonight(1), 891);
  }

  private static void looseBurns() {
    Due.part("promise 16, a night behind the draws");
    OilMemories x = one(9, 1, 5000);
    Due.text(x, 1, "15");
    x.seed(1);
    int z = 1;
    int left = 50;
    for (int night = 1; night <= 30; night++) {
      z = z * 1103515245 + 12345;
      int weather = (z >>> 8) % 10;
      z = z * 1103515245 + 12345;
      if ((z >>> 8) % 8 == 0) {
        z = z * 1103515245 + 12345;
        z = z * 1103515245 + 12345;
        left += (z >>> 8) % 5;
      }
      Due.due("lit", x.loose(1), 1);
      left--;
      Due.due("LEFT behind night " + night, x.memoryIs(0, 3), left);
      Due.due("WEATHER", x.count(1), weather);
      Due.due("z", x.count(7), z);
    }
    Due.due("DARK", x.count(3), 0);
    OilMemories smoky = one(9, 1, 5000);
    Due.text(smoky, 1, "(w>4)*99");
    Due.due("WANTED is by the drawn WEATHER", smoky.loose(30), 30 - smoky.count(3));
    Due.holds("some nights were lit, some dark", smoky.count(3) > 0 && smoky.count(3) < 30);
  }

  private static void looseHoldsLeft() {
    Due.part("term 1, LEFT held at 99");
    for (int left = 95; left <= 99; left++) {
      OilMemories x = one(0, 1, 100 * left);
      Due.text(x, 1, "199");
      int z = 1;
      int due = left;
      for (int night = 0; night < 30; night++) {
        z = z * 1103515245 + 12345;
        z = z * 1103515245 + 12345;
        if ((z >>> 8) % 8 == 0) {
          z = z * 1103515245 + 12345;
          z = z * 1103515245 + 12345;
          due = due + (z >>> 8) % 5 > 99 ? 99 : due + (z >>> 8) % 5;
        }
      }
      x.loose(30);
      Due.due("from LEFT " + left, x.memoryIs(0, 3), due);
      Due.due("z", x.count(7), z);
    }
  }

  private static void drawsWrap() {
    Due.part("term 1, draws");
    int[] seeds = {0, -1, Integer.MAX_VALUE, Integer.MIN_VALUE, 2147481863, -2147481863};
    for (int seed : seeds) {
      OilMemories x = new OilMemories();
      x.seed(seed);
      x.loose(1);
      long wide = (seed * 1103515245L + 12345L) & 0xffffffffL;
      Due.due("z behind " + seed, x.count(7), (int) wide);
      Due.due("WEATHER behind " + seed, x.count(1), (wide >> 8) % 10);
    }
  }

  /** 60 bytes that are read as sixty parts, and as few. */
  private static void aFullText() {
    Due.part("term 2, 60 bytes");
    OilMemories x = new OilMemories();
    Due.due("sixty parts", Due.text(x, 0, "!0" + "+1".repeat(29)), 1);
    Due.due("1 and 29", x.law(0, 0, 0, 0), 30);
    Due.due("sixty parts", Due.text(x, 1, "w" + "+!0".repeat(19) + "-d"), 1);
    Due.due("100 and 19 less 5", x.law(1, 100, 5, 0), 114);
    Due.due("59 bytes", Due.text(x, 0, "1+".repeat(29) + "7"), 1);
    Due.due("29 and 7", x.law(0, 0, 0, 0), 36);
    Due.due("60 bytes and a fault", Due.text(x, 0, "1+".repeat(29) + "7+"), -70);
    Due.due("a fault in byte 59", Due.text(x, 0, "1+".repeat(29) + "7?"), -69);
    Due.due("a fault in byte 0", Due.text(x, 0, "?" + "+1".repeat(29)), -10);
    Due.due("the one ahead stays", x.law(0, 0, 0, 0), 36);
    Due.feed(x, "1+".repeat(29) + "11");
    Due.due("no byte more", x.feed('1', 1), Due.FULL);
    Due.due("what stands there is read", x.text(0), 1);
    Due.due("29 and 11", x.law(0, 0, 0, 0), 40);
    Due.due("one byte", Due.text(x, 0, "o"), 1);
    Due.due("o", x.law(0, 1, 2, 3), 2);
    for (int b = 0; b <= 255; b++) {
      boolean starts = b >= '0' && b <= '9' || b == 'l' || b == 'o' || b == 'n';
      OilMemories fresh = new OilMemories();
      fresh.feed(b, 1);
      int due = starts ? 1 : b == '!' || b == '(' ? -11 : -10;
      Due.due("a text of byte " + b + " alone", fresh.text(0), due);
    }
  }

  private static void textsThatWrap() {
    Due.part("term 2, ints that wrap");
    int least = Integer.MIN_VALUE;
    int most = Integer.MAX_VALUE;
    law("w+d=k", most, 1, least, 1);
    law("w+d=k", least, -1, most, 1);
    law("w-d=k", least, 1, most, 1);
    law("w-d=k", most, -1, least, 1);
    law("w*d=k", 65536, 65536, 0, 1);
    law("w*d=k", most, 2, -2, 1);
    law("w*d=k", least, -1, least, 1);
    law("w/d=k", least, -1, least, 1);
    law("w%d=k", least, -1, 0, 1);
    law("w/d=k", -7, 2, -3, 1);
    law("w/d=k", 7, -2, -3, 1);
    law("w%d=k", -7, 2, -1, 1);
    law("w%d=k", 7, -2, 1, 1);
    law("w/d=k", most, 0, 0, 1);
    law("w/d=k", least, 0, 0, 1);
    law("w%d=k", most, 0, 0, 1);
    law("w%d=k", least, 0, 0, 1);
    law("w/d=k", 0, 0, 0, 1);
    law("w<d", least, most, 0, 1);
    law("w>d", most, least, 0, 1);
    law("w<d", most, least, 0, 0);
    law("(w&d)+(w|k)*2", least, -1, 0, 3);
    law("!w+!d*2", least, 0, 0, 2);
  }

  private static void law(String text, int w, int d, int k, int answer) {
    OilMemories x = new OilMemories();
    Due.due(text + " is a text", Due.text(x, 1, text), 1);
    Due.due(text + " of " + w + ", " + d + ", " + k, x.law(1, w, d, k), answer);
  }

  private static void heldWithin() {
    Due.part("term 2, held");
    String[] texts = {"", "l", "w"};
    for (String text : texts) {
      OilMemories x = new OilMemories();
      boolean light = !text.equals("w");
      if (!text.isEmpty()) {
        Due.due("text", Due.text(x, light ? 0 : 1, text), 1);
      }
      int most = light ? 99 : 199;
      int[] asked = {Integer.MIN_VALUE, -1, 0, 1, most - 1, most, most + 1, Integer.MAX_VALUE};
      int[] held = {0, 0, 0, 1, most - 1, most, most, most};
      for (int i = 0; i < asked.length; i++) {
        Due.due("'" + text + "' of " + asked[i], x.law(light ? 0 : 1, asked[i], 0, 0), held[i]);
      }
    }
    OilMemories x = new OilMemories();
    int[][] without = {{-2, 0}, {-1, 2}, {0, 5}, {9, 32}, {64, 197}, {65, 199}, {715827880, 199}, {715827881, 0}, {Integer.MIN_VALUE, 0},
        {1431655764, 1}, {1431655763, 0}};
    for (int[] w : without) {
      Due.due("WANTED without a text, w " + w[0], x.law(1, w[0], 99, 99), w[1]);
    }
  }

  private static void sixtyLookedAt() {
    Due.part("term 3, 60 at most are looked at");
    int[][] lefts = {{0, 0}, {1, 1}, {59, 59}, {60, 60}, {61, 60}, {99, 60}};
    for (int[] l : lefts) {
      OilMemories x = one(0, 1, 100 * l[0]);
      Due.due("lasts with LEFT " + l[0], x.lasts(), l[1]);
      Due.due("without it", x.without(0), l[1]);
      x.memory(0, 1, 9900);
      Due.due("without it, another for 60", x.without(0), 0);
    }
    OilMemories x = one(0, 1, 6000);
    x.memory(0, 1, 100);
    Due.due("a night beyond 60 isn't looked at", x.without(1), 0);
    Due.due("without the other", x.without(0), 59);
    Due.text(x, 1, "0");
    Due.due("nothing wanted", x.lasts(), 60);
    Due.due("nothing wanted", x.without(0), 0);
    Due.due("then", x.then(0, 60), 60);
    Due.due("nothing wanted of none", wantingNothing().lasts(), 60);
  }

  private static OilMemories wantingNothing() {
    OilMemories x = new OilMemories();
    Due.text(x, 1, "0");
    return x;
  }

  private static void fitsFromNoneToSixty() {
    Due.part("term 3, behind 0 to 60 nights");
    OilMemories x = one(0, 1, 9900);
    x.sheet(0, 8, 1);
    for (int n = 0; n <= 62; n++) {
      x.put(0, 0, 99 - n);
      Due.due("fits behind " + n, x.fits(0), n <= 60 ? n : Due.NONE);
    }
    x.put(0, 0, 100);
    Due.due("more than was", x.fits(0), Due.NONE);
    OilMemories none = new OilMemories();
    none.sheet(0, 32, 1);
    Due.due("no MEMORY, a number", none.fits(0), Due.NONE);
    none.sheet(0, 32, 0);
    Due.due("no MEMORY, no number", none.fits(0), 0);
    OilMemories nine = State.full();
    nine.sheet(0, 16, 9);
    for (int i = 0; i < 9; i++) {
      nine.put(0, i, i);
    }
    Due.due("all nine", nine.fits(0), 0);
    nine.sheet(1, 16, 10);
    nine.move(0, 0, 1, 0, 9);
    Due.due("a tenth number", nine.fits(1), Due.NONE);
  }

  private static void mixesOfManySets() {
    Due.part("term 3, of several sets the least");
    String[] texts = {"o=1", "o=2", "o=3", "o=4", "0", "9-o"};
    int[] sets = {1, 3, 7, 15, 1, 1};
    for (int i = 0; i < texts.length; i++) {
      OilMemories x = one(0, 8, 0);
      Due.text(x, 0, texts[i]);
      Due.due("mixes by " + texts[i], x.mixes(0, 0), sets[i]);
      Due.due("whose it is stays", x.memoryIs(0, 2), 8);
    }
    OilMemories dark = one(39, 8, 0);
    dark.blows(9);
    Due.text(dark, 0, "0");
    Due.due("the most may be below 0", dark.mixes(0, 1), -14);
    Due.due("no LEFT is asked", dark.mixes(0, 0), 1);
  }

  private static void hasCutsEach() {
    Due.part("term 3, cut each");
    OilMemories x = one(0, 7, 100);
    x.memory(0, 11, 100);
    x.memory(0, 13, 100);
    Due.due("3 and 3 and 3, not 10", x.has(0), 9);
    Due.due("3 and 3", x.has(1), 6);
    x.fills(0, 0);
    Due.due("no LEFT has nothing", x.has(0), 6);
    OilMemories most = new OilMemories();
    for (int i = 0; i < 9; i++) {
      most.memory(0, 1, 9900);
    }
    Due.text(most, 0, "99");
    Due.due("nine of 99 by 99", most.has(0), 9 * 99 * 99);
    Due.due("another has none", most.has(1), 0);
  }

  /** The numbers of a sheet, each as it makes MEMORY 0 dear; its number 0 isn't kept. */
  private static int[] numbers(OilMemories x, int sheet, int n) {
    int[] all = new int[n];
    for (int i = 0; i < n; i++) {
      x.move(sheet, i, sheet, 0, 1);
      all[i] = x.dears(sheet) > 0 ? x.memoryIs(0, 4) : -1;
    }
    return all;
  }

  private static void row(String what, OilMemories x, int sheet, int... due) {
    int[] are = numbers(x, sheet, due.length);
    Due.holds(what + ": " + Arrays.toString(are) + " for " + Arrays.toString(due), Arrays.equals(are, due));
  }

  private static OilMemories of24(int bits) {
    OilMemories x = one(0, 1, 0);
    x.sheet(0, bits, 24);
    x.sheet(1, bits, 24);
    for (int i = 0; i < 24; i++) {
      x.put(0, i, 70 + i);
    }
    return x;
  }

  private static int[] count(int from, int n) {
    int[] all = new int[n];
    for (int i = 0; i < n; i++) {
      all[i] = from + i;
    }
    return all;
  }

  private static void sheetsOf24() {
    Due.part("promises 28 to 30, 24 numbers");
    int[] all = {8, 16, 32};
    for (int bits : all) {
      OilMemories x = of24(bits);
      Due.due("all to another", x.move(0, 0, 1, 0, 24), 24);
      row("all come there", x, 1, count(70, 24));
      row("all stay here", x, 0, count(70, 24));
      x = of24(bits);
      Due.due("all to where they are", x.move(0, 0, 0, 0, 24), 24);
      row("all as they were", x, 0, count(70, 24));
      x = of24(bits);
      Due.due("23 upwards, as they all were", x.move(0, 0, 0, 1, 23), 23);
      int[] up = count(69, 24);
      up[0] = 70;
      row("one up", x, 0, up);
      x = of24(bits);
      Due.due("23 downwards, as they all were", x.move(0, 1, 0, 0, 23), 23);
      int[] down = count(71, 24);
      down[23] = 93;
      row("one down", x, 0, down);
      x = of24(bits);
      Due.due("none", x.move(0, 24, 1, 24, 0), 0);
      row("none came", x, 1, new int[24]);
      Due.due("again", x.sheet(0, bits, 24), 1);
      row("all 0 again", x, 0, new int[24]);
      Due.due("fewer", x.sheet(0, bits, 2), 1);
      Due.due("more", x.sheet(0, bits, 24), 1);
      row("all 0 again", x, 0, new int[24]);
    }
  }

  private static void lowestBits() {
    Due.part("promise 29, its lowest bits");
    int[][] puts = {{8, 256 + 42, 42}, {8, -256 + 42, 42}, {8, 42 + 65536, 42}, {8, 100, -1}, {8, 128, -1}, {8, 255, -1}, {8, -1, -1},
        {8, Integer.MIN_VALUE, 0}, {16, 256 + 42, -1}, {16, 65536 + 42, 42}, {16, -65536 + 42, 42}, {16, 32768, -1}, {16, -1, -1},
        {16, Integer.MIN_VALUE + 7, 7}, {32, 65536 + 42, -1}, {32, Integer.MIN_VALUE, -1}, {32, -1, -1}, {32, 99, 99}, {32, 100, -1}};
    for (int[] p : puts) {
      OilMemories x = one(0, 1, 0);
      x.sheet(0, p[0], 1);
      x.put(0, 0, p[1]);
      row(p[1] + " of " + p[0] + " bits", x, 0, p[2]);
    }
  }

  private static void aFullImage() {
    Due.part("promises 33, 34, all that there may be");
    OilMemories x = new OilMemories();
    for (int i = 0; i < 9; i++) {
      x.memory(10 * (i % 7) + i, 15 - i, 100 * i + 9 - i);
    }
    Due.text(x, 0, "!0" + "+1".repeat(29));
    Due.text(x, 1, "!0" + "+2".repeat(29));
    Due.feed(x, "1+".repeat(29) + "13");
    for (int i = 0; i < 24; i++) {
      x.tell(i);
    }
    Due.due("image", x.image(), 1);
    x.untell(0);
    x.text(1);
    x.check();
    Due.due("restore", x.restore(), 0);
    Due.due("MEMORIES", x.count(0), 9);
    Due.due("a tenth", x.memory(0, 1, 0), Due.FULL);
    Due.due("bytes", x.count(4), 60);
    Due.due("one byte more", x.feed('1', 1), Due.FULL);
    Due.due("numbers that wait", x.count(5), 24);
    Due.due("one more", x.tell(0), Due.FULL);
    Due.due("nine are right", x.check(), 10);
    Due.due("LIGHT's text", x.law(0, 0, 0, 0), 30);
    Due.due("WANTED's text", x.law(1, 0, 0, 0), 59);
    Due.due("the tape", x.text(1), 1);
    Due.due("29 and 13", x.law(1, 0, 0, 0), 42);
    for (int i = 0; i < 9; i++) {
      int[] is = {i % 7, i, 15 - i, i, 9 - i};
      for (int what = 0; what <= 4; what++) {
        Due.due("memoryIs(" + i + ", " + what + ")", x.memoryIs(i, what), is[what]);
      }
    }
    OilMemories all = one(0, 1, 0);
    for (int i = 0; i < 24; i++) {
      all.tell(0);
    }
    all.image();
    all.check();
    all.restore();
    for (int i = 0; i < 8; i++) {
      all.memory(0, 1, 0);
    }
    Due.due("nine are right, the tenth has no MEMORY", all.check(), 10);
  }

  private static void anEmptyImage() {
    Due.part("promises 33, 34, nothing");
    OilMemories x = new OilMemories();
    x.image();
    x.memory(0, 1, 500);
    Due.text(x, 0, "1");
    Due.text(x, 1, "0");
    x.feed('1', 1);
    x.tell(4);
    x.blows(9);
    x.seed(9);
    x.nights(3);
    Due.due("NIGHT", x.restore(), 0);
    int[] counts = {0, 0, 0, 0, 0, 0, 0, 1};
    for (int what = 0; what <= 7; what++) {
      Due.due("count(" + what + ")", x.count(what), counts[what]);
    }
    Due.due("no text", x.untell(0), 0);
    Due.due("no text", x.untell(1), 0);
    Due.due("none waits", x.check(), 0);
    Due.due("no memory", x.memoryIs(0, 0), Due.BEYOND);
    for (int i = 2; i <= 40; i++) {
      Due.due("how often", x.image(), i);
    }
    OilMemories end = State.atTheEnd();
    end.image();
    Due.due("NIGHT 9999", end.restore(), 9999);
  }

  private static void checkOf24() {
    Due.part("promise 36");
    OilMemories x = State.full();
    Due.due("nine are right, the tenth has no MEMORY", x.check(), 10);
    for (int wrong = 0; wrong <= 9; wrong++) {
      for (int i = 0; i < 9; i++) {
        x.tell(i == wrong ? i + 1 : i);
      }
      Due.due("number " + wrong + " is wrong", x.check(), wrong == 9 ? 0 : 1 + wrong);
    }
    x.tell(256);
    Due.due("256 isn't 0", x.check(), 1);
    x.tell(Integer.MIN_VALUE);
    Due.due("the least isn't 0", x.check(), 1);
  }

  private static void voicesThatWrap() {
    Due.part("term 4, ints that wrap, cut");
    int least = Integer.MIN_VALUE;
    int most = Integer.MAX_VALUE;
    OilMemories x = one(0, 1, 0);
    x.memory(10, 1, 0);
    int[][] dances = {{0, least, most - 2}, {0, least + 3, least}, {1, least, -6}, {2, most, -8}};
    for (int[] d : dances) {
      Due.due("voice(1, " + d[0] + ", " + d[1] + ") of a dance", x.voice(1, d[0], d[1]), d[2]);
    }
    Due.due("the least by -1, and turns(1)", x.voice(1, 3, least), least - 4);
    x.become(1, 20);
    Due.due("0 less the least", x.voice(1, 1, (1 << 30) - 1), least);
    x.become(1, 30);
    Due.due("-1 / 2 is 0", x.voice(1, 2, -1), 2);
    Due.due("the least / 2", x.voice(1, 2, least), least + 2);
    Due.due("the most / 2", x.voice(1, 2, most), (1073741823 + 1) * 2);
    x.become(1, 50);
    Due.due("the most and 1, and 1", x.voice(1, 1, most), -2 * (least + 1));
    x.become(1, 42);
    Due.due("xor k", x.voice(1, 2, 0), (2 * (-3 * 3) - 2) ^ 1);
    x.become(1, 4);
    Due.due("-2 by 3 is 0, not PARTED", x.voice(1, 3, -2), 0);
    Due.due("-4 by 3 is -1", x.voice(1, 3, -4), -1);
    x.become(1, 1);
    Due.due("m - k is 0", x.voice(1, 3, 0), Due.PARTED);
    Due.due("told(6)", x.told(6), 1);
    OilMemories nine = State.full();
    for (int i = 0; i < 9; i++) {
      nine.become(i, 9);
      Due.due("9 by 9 - k", nine.voice(i, 3, 72), 72 / (9 - i));
      nine.become(i, i);
      Due.due("m is k", nine.voice(i, 3, 72), Due.PARTED);
    }
  }
}
