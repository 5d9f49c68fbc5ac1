import java.util.function.Supplier;

/** The last number that each call still takes, and the first that it doesn't, on both sides. */
public final class BoundsTest {
  private interface Call {
    int with(OilMemories x, int v);
  }

  public static void main(String[] args) {
    memory();
    whichMemory();
    whichOfNine();
    whatOfAMemory();
    keepers();
    texts();
    nights();
    nightsToTheLast();
    whatWouldBe();
    voices();
    sheets();
    rows();
    moves();
    counts();
    Due.end();
  }

  private static void taken(String what, Supplier<OilMemories> start, Call call, int v, int answer) {
    Due.due(what + " with " + v, call.with(start.get(), v), answer);
  }

  /** Numbers least to most are taken; those on both sides, and the farthest ones, answer the error. */
  private static void bounds(String what, Supplier<OilMemories> start, Call call, int error, int... leastAndMostWithAnswers) {
    int least = leastAndMostWithAnswers[0];
    int most = leastAndMostWithAnswers[2];
    taken(what, start, call, least, leastAndMostWithAnswers[1]);
    taken(what, start, call, most, leastAndMostWithAnswers[3]);
    int[] outside = {least - 1, most + 1, Integer.MIN_VALUE, Integer.MAX_VALUE};
    for (int v : outside) {
      taken(what, start, call, v, error);
    }
  }

  private static void bounds(String what, Call call, int... leastAndMostWithAnswers) {
    bounds(what, State::four, call, Due.BEYOND, leastAndMostWithAnswers);
  }

  private static void memory() {
    Due.part("bounds of promise 2");
    bounds("memory, km", (x, v) -> x.memory(v, 1, 0), 0, 4, 69, 4);
    bounds("memory, whose", (x, v) -> x.memory(0, v, 0), 1, 4, 15, 4);
    bounds("memory, ld", (x, v) -> x.memory(0, 1, v), 0, 4, 9999, 4);
    int[][] edges = {{0, 1, 0, 0, 0, 1, 0, 0}, {9, 15, 99, 0, 9, 15, 0, 99}, {10, 8, 100, 1, 0, 8, 1, 0},
        {60, 2, 9900, 6, 0, 2, 99, 0}, {69, 4, 9999, 6, 9, 4, 99, 99}};
    for (int[] e : edges) {
      OilMemories x = new OilMemories();
      Due.due("memory", x.memory(e[0], e[1], e[2]), 0);
      for (int what = 0; what <= 4; what++) {
        Due.due("memory(" + e[0] + ", " + e[1] + ", " + e[2] + "), " + what, x.memoryIs(0, what), e[3 + what]);
      }
    }
  }

  private static void whichMemory() {
    Due.part("bounds of a memory");
    bounds("memoryIs", (x, v) -> x.memoryIs(v, 0), 0, 0, 3, 6);
    bounds("become", (x, v) -> x.become(v, 0), 0, 0, 3, 6);
    bounds("as", (x, v) -> x.as(v, 0), 0, 5, 3, 0);
    bounds("fills", (x, v) -> x.fills(v, 7), 0, 3, 3, 99);
    bounds("dear", (x, v) -> x.dear(v, 7), 0, 10, 3, 1);
    bounds("trim", (x, v) -> x.trim(v, 2), 0, 0, 3, 0);
    bounds("tells", (x, v) -> x.tells(v, 3), 0, 0, 3, 1);
    bounds("without", (x, v) -> x.without(v), 0, 0, 3, 42);
    bounds("then", (x, v) -> x.then(v, 0), 0, 3, 3, 99);
    bounds("mixes", (x, v) -> x.mixes(v, 1), 0, 15, 3, 13);
    bounds("voice", (x, v) -> x.voice(v, 0, 7), 0, 7, 3, 9);
  }

  private static void whichOfNine() {
    Due.part("bounds of nine memories, and of none");
    Call[] calls = {(x, v) -> x.memoryIs(v, 3), (x, v) -> x.fills(v, v), (x, v) -> x.then(v, 0)};
    for (Call call : calls) {
      bounds("of nine", State::full, call, Due.BEYOND, 0, 0, 8, 8);
      taken("of none", OilMemories::new, call, 0, Due.BEYOND);
    }
    Call[] others = {(x, v) -> x.become(v, 0), (x, v) -> x.as(v, 0), (x, v) -> x.dear(v, 0), (x, v) -> x.trim(v, 0),
        (x, v) -> x.tells(v, 0), (x, v) -> x.without(v), (x, v) -> x.mixes(v, 0), (x, v) -> x.voice(v, 0, 0)};
    for (Call call : others) {
      taken("of none", OilMemories::new, call, 0, Due.BEYOND);
      taken("of nine", State::full, call, 9, Due.BEYOND);
    }
    OilMemories x = new OilMemories();
    for (int i = 0; i < 8; i++) {
      x.memory(0, 1, 0);
    }
    Due.due("eight aren't all", x.memoryIs(8, 0), Due.BEYOND);
    Due.due("the ninth", x.memory(35, 1, 0), 8);
    Due.due("the ninth is there", x.memoryIs(8, 0), 3);
    Due.due("the tenth", x.memory(0, 1, 0), Due.FULL);
  }

  private static void whatOfAMemory() {
    Due.part("bounds of promises 3 to 7 and 10");
    bounds("memoryIs, what", (x, v) -> x.memoryIs(1, v), 0, 1, 6, 3);
    bounds("become, km", (x, v) -> x.become(1, v), 0, 1, 69, 1);
    bounds("as, kind, of a farm", (x, v) -> x.as(3, v) == Due.KIND ? 1 : x.as(3, v), 0, 0, 6, 0);
    bounds("fills, left", (x, v) -> x.fills(0, v), 0, 3, 99, 3);
    bounds("dear, dear", (x, v) -> x.dear(0, v), 0, 10, 99, 10);
    bounds("blows", (x, v) -> x.blows(v), 0, 0, 9, 0);
    int[] becomes = {0, 9, 10, 19, 59, 60, 69};
    for (int km : becomes) {
      OilMemories x = State.four();
      x.become(2, km);
      Due.due("KIND of km " + km, x.memoryIs(2, 0), km / 10);
      Due.due("m of km " + km, x.memoryIs(2, 1), km % 10);
    }
    int[] edges = {0, 99};
    for (int v : edges) {
      OilMemories x = State.four();
      x.fills(0, v);
      x.dear(1, v);
      Due.due("LEFT " + v, x.memoryIs(0, 3), v);
      Due.due("DEAR " + v, x.memoryIs(1, 4), v);
    }
  }

  private static void keepers() {
    Due.part("bounds of a keeper");
    bounds("trim, keeper", (x, v) -> x.trim(2, v), 0, 1, 3, 1);
    bounds("tells, keeper", (x, v) -> x.tells(2, v), 0, 1, 3, 1);
    bounds("has", (x, v) -> x.has(v), 0, 45 + 31 + 117, 3, 117 + 1287);
    OilMemories x = State.four();
    for (int keeper = 0; keeper < 4; keeper++) {
      int others = 15 - (1 << keeper);
      x.tells(2, keeper);
      x.trim(2, keeper);
      Due.due("not " + keeper + "'s", x.memoryIs(2, 2), others);
      x.tells(2, keeper);
      Due.due(keeper + "'s again", x.memoryIs(2, 2), 15);
    }
    for (int keeper = 0; keeper < 4; keeper++) {
      OilMemories alone = new OilMemories();
      alone.memory(0, 1 << keeper, 0);
      Due.due(keeper + "'s alone", alone.trim(0, keeper), Due.STATE);
      Due.due("another's", alone.trim(0, 3 - keeper), 0);
      Due.due("of two", alone.tells(0, 3 - keeper), 0);
      Due.due("of two", alone.trim(0, keeper), 1);
      Due.due("the other is alone now", alone.memoryIs(0, 2), 1 << 3 - keeper);
    }
  }

  private static void texts() {
    Due.part("bounds of promises 11 to 14");
    Supplier<OilMemories> one = () -> {
      OilMemories x = State.four();
      x.feed('1', 1);
      return x;
    };
    bounds("feed, n", (x, v) -> x.feed(0L, v), 1, 1, 8, 8);
    bounds("text", one, (x, v) -> x.text(v), Due.BEYOND, 0, 1, 1, 1);
    bounds("untell", (x, v) -> x.untell(v), 0, 0, 1, 0);
    bounds("law", (x, v) -> x.law(v, 1, 0, 0), 0, 1, 1, 8);
    for (int n = 1; n <= 8; n++) {
      OilMemories x = new OilMemories();
      Due.feed(x, "1+".repeat(26));
      Due.due("52 and " + n, x.feed(0L, n), 52 + n);
      for (int more = 8; more > 8 - n; more--) {
        Due.due(52 + n + " and " + more, x.feed(0L, more), Due.FULL);
      }
      Due.due("to the last", n == 8 ? x.count(4) : x.feed(0L, 8 - n), 60);
    }
  }

  private static void nights() {
    Due.part("bounds of promises 15, 16");
    bounds("nights", OilMemories::new, (x, v) -> x.nights(v), Due.BEYOND, 1, 0, 60, 0);
    bounds("loose", OilMemories::new, (x, v) -> x.loose(v), Due.BEYOND, 1, 0, 30, 0);
    Call[] counted = {(x, v) -> x.nights(v) + x.count(2), (x, v) -> x.loose(v) + x.count(2)};
    for (Call call : counted) {
      for (int n = 1; n <= 30; n++) {
        taken("so many nights went by", OilMemories::new, call, n, n);
      }
    }
  }

  private static void nightsToTheLast() {
    Due.part("NIGHT 9999");
    Call[] calls = {(x, v) -> x.nights(v), (x, v) -> x.loose(v)};
    for (Call call : calls) {
      Supplier<OilMemories> start = () -> State.inNight(9989);
      OilMemories x = start.get();
      Due.due("one too many", call.with(x, 11), Due.STATE);
      Due.due("NIGHT", x.count(2), 9989);
      Due.holds("to the last", call.with(x, 10) >= 0);
      Due.due("NIGHT", x.count(2), 9999);
      Due.due("none is left", call.with(x, 1), Due.STATE);
      Due.due("NIGHT", x.count(2), 9999);
    }
    OilMemories dark = new OilMemories();
    for (int i = 0; i < 167; i++) {
      dark.nights(i == 0 ? 39 : 60);
    }
    Due.due("NIGHT", dark.count(2), 9999);
    Due.due("DARK", dark.count(3), 9999);
    Due.due("none is lit on from there", dark.lasts(), 0);
  }

  private static void whatWouldBe() {
    Due.part("bounds of promises 18 to 25");
    bounds("tonight", (x, v) -> x.tonight(v), 0, 8, 3, 5);
    bounds("then, n", (x, v) -> x.then(3, v), 0, 99, 60, 39);
    bounds("mixes, what", (x, v) -> x.mixes(1, v), 0, 1, 1, 19);
    bounds("odds", OilMemories::new, (x, v) -> x.odds(v), Due.BEYOND, 0, 0, 1, 1);
    Supplier<OilMemories> sheets = () -> {
      OilMemories x = State.four();
      for (int sheet = 0; sheet <= 3; sheet++) {
        x.sheet(sheet, 8, 0);
      }
      return x;
    };
    bounds("fits", sheets, (x, v) -> x.fits(v), Due.BEYOND, 0, 0, 3, 0);
    bounds("dears", sheets, (x, v) -> x.dears(v), Due.BEYOND, 0, 0, 3, 0);
    bounds("judge", sheets, (x, v) -> x.judge(v), Due.BEYOND, 0, 0, 3, 0);
  }

  private static void voices() {
    Due.part("bounds of promises 26, 27");
    bounds("voice, voice", (x, v) -> x.voice(0, v, 7), 0, 7, 3, 1);
    Supplier<OilMemories> six = () -> {
      OilMemories x = State.four();
      x.voice(2, 2, 7);
      return x;
    };
    bounds("body of six", six, (x, v) -> x.body(v), Due.NONE, 0, 51, 5, 10);
    Supplier<OilMemories> one = () -> {
      OilMemories x = State.four();
      x.voice(3, 0, 7);
      return x;
    };
    bounds("body of one", one, (x, v) -> x.body(v), Due.NONE, 0, 70, 0, 70);
    taken("body of none", State::four, (x, v) -> x.body(v), 0, Due.NONE);
  }

  private static void sheets() {
    Due.part("bounds of promise 28");
    bounds("sheet, sheet", (x, v) -> x.sheet(v, 8, 1), 0, 1, 3, 1);
    bounds("sheet, missing", (x, v) -> x.sheet(v, 0, 1), 0, 1, 3, 1);
    for (int bits = -33; bits <= 65; bits++) {
      boolean taken = bits == 0 || bits == 8 || bits == 16 || bits == 32;
      taken("sheet, bits", State::four, (x, v) -> x.sheet(0, v, 1), bits, taken ? 1 : Due.BEYOND);
    }
    int[] all = {8, 16, 32};
    for (int bits : all) {
      Call ofBits = (x, v) -> x.sheet(0, bits, v);
      int[][] rows = {{0, 1}, {1, 1}, {24, 1}, {25, Due.BEYOND}, {Integer.MAX_VALUE, Due.BEYOND}, {-1, Due.STATE},
          {Integer.MIN_VALUE, Due.STATE}};
      for (int[] row : rows) {
        taken("sheet of " + bits + ", n", State::four, ofBits, row[0], row[1]);
      }
    }
    int[] any = {0, 24, 25, -1, Integer.MAX_VALUE, Integer.MIN_VALUE};
    for (int n : any) {
      taken("a missing sheet, n", State::four, (x, v) -> x.sheet(0, 0, v), n, 1);
    }
  }

  private static OilMemories rowsOf(int bits, int n) {
    OilMemories x = State.four();
    for (int sheet = 0; sheet <= 3; sheet++) {
      x.sheet(sheet, bits, n);
    }
    return x;
  }

  private static void rows() {
    Due.part("bounds of promise 29");
    int[] all = {8, 16, 32};
    for (int bits : all) {
      bounds("put, sheet", () -> rowsOf(bits, 24), (x, v) -> x.put(v, 0, 1), Due.BEYOND, 0, 1, 3, 1);
      bounds("put, i of 24", () -> rowsOf(bits, 24), (x, v) -> x.put(0, v, 1), Due.BEYOND, 0, 1, 23, 1);
      bounds("put, i of one", () -> rowsOf(bits, 1), (x, v) -> x.put(0, v, 1), Due.BEYOND, 0, 1, 0, 1);
      taken("put, i of none", () -> rowsOf(bits, 0), (x, v) -> x.put(0, v, 1), 0, Due.BEYOND);
      int[] any = {Integer.MIN_VALUE, -1, 0, Integer.MAX_VALUE};
      for (int v : any) {
        taken("put, any number", () -> rowsOf(bits, 2), (x, w) -> x.put(0, 1, w), v, 1);
      }
    }
  }

  private static void moves() {
    Due.part("bounds of promise 30");
    Supplier<OilMemories> five = () -> rowsOf(16, 5);
    bounds("move, sheet", five, (x, v) -> x.move(v, 0, 0, 0, 1), Due.BEYOND, 0, 1, 3, 1);
    bounds("move, other", five, (x, v) -> x.move(0, 0, v, 0, 1), Due.BEYOND, 0, 1, 3, 1);
    bounds("move, i", five, (x, v) -> x.move(0, v, 1, 0, 2), Due.BEYOND, 0, 2, 3, 2);
    bounds("move, j", five, (x, v) -> x.move(0, 0, 1, v, 2), Due.BEYOND, 0, 2, 3, 2);
    bounds("move, n", five, (x, v) -> x.move(0, 0, 1, 0, v), Due.BEYOND, 0, 0, 5, 5);
    bounds("move, n from 2 on", five, (x, v) -> x.move(0, 2, 1, 0, v), Due.BEYOND, 0, 0, 3, 3);
    bounds("move, n to 4", five, (x, v) -> x.move(0, 0, 1, 4, v), Due.BEYOND, 0, 0, 1, 1);
    bounds("move, none from i on", five, (x, v) -> x.move(0, v, 1, 0, 0), Due.BEYOND, 0, 0, 5, 0);
    bounds("move, none to j", five, (x, v) -> x.move(0, 0, 1, v, 0), Due.BEYOND, 0, 0, 5, 0);
    bounds("move, all 24", () -> rowsOf(32, 24), (x, v) -> x.move(0, 0, 1, 0, v), Due.BEYOND, 0, 0, 24, 24);
    bounds("move, none of none", () -> rowsOf(8, 0), (x, v) -> x.move(0, 0, 0, 0, v), Due.BEYOND, 0, 0, 0, 0);
  }

  private static void counts() {
    Due.part("bounds of promises 35 to 38");
    bounds("count", (x, v) -> x.count(v), 0, 4, 7, 1);
    bounds("told", (x, v) -> x.told(v), 1, 0, 6, 0);
    OilMemories x = State.four();
    for (int i = 1; i <= 23; i++) {
      x.tell(0);
    }
    Due.due("the last that may wait", x.tell(0), 24);
    Due.due("the first that may not", x.tell(0), Due.FULL);
    x.check();
    Due.due("the first again", x.tell(0), 1);
  }
}
