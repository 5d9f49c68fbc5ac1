import java.util.List;
import java.util.function.Supplier;

/**
 * Each ERROR of each call: it is answered, told() counts it and no other, and nothing else is
 * changed; ERRORS are asked in their order; what only asks changes nothing.
 */
public final class ErrorsTest {
  private interface Call {
    int on(OilMemories x);
  }

  public static void main(String[] args) {
    whatIsSeenTellsStatesApart();
    memories();
    memoriesInOrder();
    texts();
    nights();
    whatWouldBe();
    voices();
    sheets();
    moves();
    images();
    counts();
    asksThatChangeNothing();
    answersThatAreNoErrors();
    Due.end();
  }

  private static int[] told(OilMemories x) {
    int[] told = new int[7];
    for (int k = 1; k <= 6; k++) {
      told[k] = x.told(k);
    }
    return told;
  }

  /** The call answers so; what told() tells is more by 1 if that is an ERROR; nothing else is changed. */
  private static void same(String what, Supplier<OilMemories> start, Call call, int answer, boolean error) {
    OilMemories x = start.get();
    int[] before = told(x);
    Due.due(what, call.on(x), answer);
    int[] behind = told(x);
    for (int k = 1; k <= 6; k++) {
      Due.due(what + ", told(" + k + ")", behind[k], before[k] + (error && answer == Due.LOW - k ? 1 : 0));
    }
    List<Integer> seen = State.seen(x);
    List<Integer> due = State.seen(start.get());
    Due.holds(what + " changes nothing: " + seen + " for " + due, seen.equals(due));
  }

  private static void refused(String what, Supplier<OilMemories> start, Call call, int error) {
    same(what, start, call, error, true);
  }

  private static void beyond(String what, Call call) {
    refused(what, State::rich, call, Due.BEYOND);
  }

  /** Else the tests here would hold nothing. */
  private static void whatIsSeenTellsStatesApart() {
    Due.part("what is seen");
    Call[] changes = {
      x -> x.memory(0, 1, 0), x -> x.become(0, 15), x -> x.become(0, 6), x -> x.fills(1, 0), x -> x.dear(1, 7),
      x -> x.trim(2, 0), x -> x.tells(0, 3), x -> x.blows(0), x -> x.feed(0, 1), x -> x.text(0), x -> x.text(1),
      x -> x.untell(0), x -> x.untell(1), x -> x.nights(1), x -> x.loose(1), x -> x.seed(3), x -> x.voice(1, 3, 3),
      x -> x.sheet(0, 0, 0), x -> x.sheet(3, 8, 0), x -> x.sheet(0, 16, 3), x -> x.sheet(1, 16, 5), x -> x.put(0, 2, 9),
      x -> x.put(1, 0, 9), x -> x.move(2, 0, 2, 1, 1), x -> x.dears(1), x -> x.image(), x -> x.restore(),
      x -> x.tell(9), x -> x.check(),
    };
    List<Integer> due = State.seen(State.rich());
    Due.holds("the same is seen again", due.equals(State.seen(State.rich())));
    for (int i = 0; i < changes.length; i++) {
      OilMemories x = State.rich();
      changes[i].on(x);
      Due.holds("change " + i + " is seen", !State.seen(x).equals(due));
    }
  }

  private static void memories() {
    Due.part("errors of promises 2 to 10");
    beyond("memory, km", x -> x.memory(70, 1, 0));
    beyond("memory, whose", x -> x.memory(0, 16, 0));
    beyond("memory, none's", x -> x.memory(0, 0, 0));
    beyond("memory, ld", x -> x.memory(0, 1, 10000));
    refused("memory, nine stand", State::full, x -> x.memory(0, 1, 0), Due.FULL);
    beyond("memoryIs, memory", x -> x.memoryIs(5, 0));
    beyond("memoryIs, what", x -> x.memoryIs(0, 7));
    beyond("become, memory", x -> x.become(5, 0));
    beyond("become, km", x -> x.become(0, 70));
    beyond("become, km below", x -> x.become(0, -1));
    beyond("as, memory", x -> x.as(5, 0));
    beyond("as, kind", x -> x.as(0, 7));
    refused("as, of no such kind", State::rich, x -> x.as(0, 1), Due.KIND);
    beyond("fills, memory", x -> x.fills(5, 1));
    beyond("fills, left", x -> x.fills(0, 100));
    beyond("fills, left below", x -> x.fills(0, -1));
    beyond("dear, memory", x -> x.dear(5, 1));
    beyond("dear, dear", x -> x.dear(0, 100));
    beyond("dear, dear below", x -> x.dear(0, -1));
    beyond("trim, memory", x -> x.trim(5, 0));
    beyond("trim, keeper", x -> x.trim(2, 4));
    refused("trim, his alone", State::rich, x -> x.trim(0, 0), Due.STATE);
    beyond("tells, memory", x -> x.tells(5, 1));
    beyond("tells, keeper", x -> x.tells(0, 4));
    beyond("tells, keeper below", x -> x.tells(0, -1));
    beyond("blows", x -> x.blows(10));
    beyond("blows below", x -> x.blows(-1));
  }

  private static void memoriesInOrder() {
    Due.part("errors of promises 2 to 10 in order");
    refused("memory, km ahead of FULL", State::full, x -> x.memory(70, 1, 0), Due.BEYOND);
    refused("memory, whose ahead of FULL", State::full, x -> x.memory(0, 0, 0), Due.BEYOND);
    refused("memory, ld ahead of FULL", State::full, x -> x.memory(0, 1, -1), Due.BEYOND);
    beyond("as, a memory ahead of KIND", x -> x.as(5, 6));
    beyond("as, a kind ahead of KIND", x -> x.as(0, -1));
    beyond("trim, a keeper ahead of STATE", x -> x.trim(0, 32));
    beyond("trim, a keeper ahead of STATE", x -> x.trim(0, -32));
  }

  private static void texts() {
    Due.part("errors of promises 11 to 14");
    beyond("feed, none", x -> x.feed(0x31L, 0));
    beyond("feed, nine", x -> x.feed(0x31L, 9));
    refused("feed, a full tape", State::full, x -> x.feed(0x31L, 1), Due.FULL);
    refused("feed, beyond ahead of FULL", State::full, x -> x.feed(0x31L, 0), Due.BEYOND);
    refused("feed, beyond ahead of FULL", State::full, x -> x.feed(0x31L, 9), Due.BEYOND);
    beyond("text: the tape stays", x -> x.text(2));
    beyond("text: the tape stays", x -> x.text(-1));
    beyond("untell", x -> x.untell(2));
    beyond("untell", x -> x.untell(-1));
    beyond("law", x -> x.law(2, 1, 1, 1));
    beyond("law", x -> x.law(-1, 1, 1, 1));
  }

  /** One in which none of n bytes comes to the tape if there is not room for all. */
  private static OilMemories fiftySix() {
    OilMemories x = State.four();
    Due.feed(x, "1+".repeat(28));
    return x;
  }

  private static void nights() {
    Due.part("errors of promises 15 to 16");
    refused("feed, one too many of five", ErrorsTest::fiftySix, x -> x.feed(0x3131313131L, 5), Due.FULL);
    beyond("nights, none", x -> x.nights(0));
    beyond("nights, 61", x -> x.nights(61));
    beyond("loose, none", x -> x.loose(0));
    beyond("loose, 31", x -> x.loose(31));
    refused("nights, none left", State::atTheEnd, x -> x.nights(1), Due.STATE);
    refused("loose, none left", State::atTheEnd, x -> x.loose(1), Due.STATE);
    refused("nights, one too many", () -> State.inNight(9990), x -> x.nights(10), Due.STATE);
    refused("loose, one too many", () -> State.inNight(9990), x -> x.loose(10), Due.STATE);
    refused("nights, beyond ahead of STATE", State::atTheEnd, x -> x.nights(61), Due.BEYOND);
    refused("nights, beyond ahead of STATE", State::atTheEnd, x -> x.nights(Integer.MAX_VALUE), Due.BEYOND);
    refused("loose, beyond ahead of STATE", State::atTheEnd, x -> x.loose(31), Due.BEYOND);
    refused("loose, beyond ahead of STATE", State::atTheEnd, x -> x.loose(Integer.MAX_VALUE), Due.BEYOND);
  }

  private static void whatWouldBe() {
    Due.part("errors of promises 18 to 25");
    for (int what = 0; what <= 2; what++) {
      int asked = what;
      refused("tonight(" + what + "), no set", OilMemories::new, x -> x.tonight(asked), Due.NONE);
    }
    beyond("tonight", x -> x.tonight(4));
    beyond("tonight", x -> x.tonight(-1));
    refused("tonight, beyond ahead of NONE", OilMemories::new, x -> x.tonight(4), Due.BEYOND);
    beyond("without", x -> x.without(5));
    beyond("then, memory", x -> x.then(5, 1));
    beyond("then, n", x -> x.then(0, 61));
    beyond("then, n below", x -> x.then(0, -1));
    beyond("has", x -> x.has(4));
    beyond("mixes, memory", x -> x.mixes(5, 0));
    beyond("mixes, what", x -> x.mixes(0, 2));
    beyond("odds", x -> x.odds(2));
    beyond("fits", x -> x.fits(4));
    refused("fits, missing", State::rich, x -> x.fits(3), Due.NONE);
    refused("fits, not by 60", State::rich, x -> x.fits(1), Due.NONE);
  }

  private static void voices() {
    Due.part("errors of promises 26 to 27");
    beyond("voice, memory", x -> x.voice(5, 0, 1));
    beyond("voice, memory below", x -> x.voice(-1, 0, 1));
    beyond("voice, voice", x -> x.voice(0, 4, 1));
    beyond("voice, voice below", x -> x.voice(0, -1, 1));
    beyond("voice, beyond ahead of PARTED", x -> x.voice(2, 4, 1));
    Supplier<OilMemories> parted = () -> {
      OilMemories x = State.rich();
      x.voice(2, 3, 5);
      return x;
    };
    refused("voice, PARTED behind one that left such a trace", parted, x -> x.voice(2, 3, 5), Due.PARTED);
    refused("body, below", State::rich, x -> x.body(-1), Due.NONE);
    refused("body, behind the last", State::rich, x -> x.body(x.count(6)), Due.NONE);
    refused("body, no voice yet", OilMemories::new, x -> x.body(0), Due.NONE);
  }

  private static void sheets() {
    Due.part("errors of promises 28 to 29, 31 to 32");
    beyond("sheet, sheet", x -> x.sheet(4, 8, 1));
    beyond("sheet, sheet below", x -> x.sheet(-1, 8, 1));
    beyond("sheet, bits", x -> x.sheet(0, 7, 1));
    beyond("sheet, bits below", x -> x.sheet(0, -8, 1));
    refused("sheet, n below 0", State::rich, x -> x.sheet(0, 8, -1), Due.STATE);
    refused("sheet, n below 0", State::rich, x -> x.sheet(0, 8, Integer.MIN_VALUE), Due.STATE);
    beyond("sheet, n", x -> x.sheet(0, 8, 25));
    beyond("sheet, sheet ahead of STATE", x -> x.sheet(4, 8, -1));
    beyond("sheet, bits ahead of STATE", x -> x.sheet(0, 24, -1));
    beyond("sheet, no such one to be missing", x -> x.sheet(4, 0, 1));
    beyond("put, sheet", x -> x.put(4, 0, 5));
    beyond("put, sheet below", x -> x.put(-1, 0, 5));
    refused("put, missing", State::rich, x -> x.put(3, 0, 5), Due.NONE);
    refused("put, missing ahead of no such number", State::rich, x -> x.put(3, -1, 5), Due.NONE);
    beyond("put, no such number", x -> x.put(0, 3, 5));
    beyond("put, no such number", x -> x.put(0, -1, 5));
    beyond("dears", x -> x.dears(4));
    beyond("dears", x -> x.dears(-1));
    refused("dears, missing", State::rich, x -> x.dears(3), Due.NONE);
    beyond("judge", x -> x.judge(4));
    beyond("judge", x -> x.judge(-1));
    refused("judge, missing", State::rich, x -> x.judge(3), Due.NONE);
  }

  private static void moves() {
    Due.part("errors of promise 30");
    beyond("no such sheet", x -> x.move(4, 0, 0, 0, 1));
    beyond("no such other", x -> x.move(0, 0, 4, 0, 1));
    beyond("no such sheet ahead of a missing other", x -> x.move(-1, 0, 3, 0, 1));
    beyond("no such other ahead of a missing sheet", x -> x.move(3, 0, -1, 0, 1));
    refused("missing", State::rich, x -> x.move(3, 0, 0, 0, 1), Due.NONE);
    refused("the other is missing", State::rich, x -> x.move(0, 0, 3, 0, 1), Due.NONE);
    refused("missing ahead of what is below 0", State::rich, x -> x.move(0, -1, 3, -1, -1), Due.NONE);
    refused("unlike bits", State::rich, x -> x.move(0, 0, 1, 0, 1), Due.KIND);
    refused("unlike bits, none moved", State::rich, x -> x.move(0, 0, 2, 0, 0), Due.KIND);
    refused("unlike bits ahead of what is below 0", State::rich, x -> x.move(1, -1, 2, -1, -1), Due.KIND);
    refused("unlike bits ahead of what doesn't stand there", State::rich, x -> x.move(1, 5, 2, 5, 5), Due.KIND);
    beyond("n below 0", x -> x.move(0, 0, 0, 1, -1));
    beyond("i below 0", x -> x.move(0, -1, 0, 1, 1));
    beyond("j below 0", x -> x.move(0, 0, 0, -1, 1));
    beyond("no number i", x -> x.move(0, 3, 0, 0, 1));
    beyond("no number j", x -> x.move(0, 0, 0, 3, 1));
    beyond("from i on one too few", x -> x.move(0, 1, 0, 0, 3));
    beyond("from j on one too few", x -> x.move(0, 0, 0, 1, 3));
    beyond("more than there are", x -> x.move(0, 0, 0, 0, 4));
    beyond("i and n wrap", x -> x.move(0, 1, 0, 0, Integer.MAX_VALUE));
    beyond("j and n wrap", x -> x.move(0, 0, 0, Integer.MAX_VALUE, 1));
  }

  private static void images() {
    Due.part("errors of promises 34 to 36");
    refused("restore, no image", State::four, x -> x.restore(), Due.NONE);
    refused("tell, 24 wait", State::full, x -> x.tell(0), Due.FULL);
  }

  private static void counts() {
    Due.part("errors of promises 37 to 38");
    beyond("count", x -> x.count(8));
    beyond("count", x -> x.count(-1));
    beyond("told(0)", x -> x.told(0));
    beyond("told(7)", x -> x.told(7));
    beyond("told(-1)", x -> x.told(-1));
  }

  private static void asks(String what, int answer, Call call) {
    same(what, State::rich, call, answer, false);
  }

  private static void asksThatChangeNothing() {
    Due.part("all this is only thought");
    OilMemories x = State.rich();
    asks("memoryIs", x.memoryIs(2, 5), y -> y.memoryIs(2, 5));
    asks("as", x.as(2, 1), y -> y.as(2, 1));
    asks("law", x.law(1, 2, 3, 4), y -> y.law(1, 2, 3, 4));
    for (int what = 0; what <= 3; what++) {
      int asked = what;
      asks("tonight(" + what + ")", x.tonight(what), y -> y.tonight(asked));
    }
    asks("lasts", x.lasts(), y -> y.lasts());
    asks("without", x.without(3), y -> y.without(3));
    asks("then", x.then(3, 60), y -> y.then(3, 60));
    asks("has", x.has(2), y -> y.has(2));
    asks("mixes", x.mixes(2, 1), y -> y.mixes(2, 1));
    asks("odds", x.odds(1), y -> y.odds(1));
    asks("judge", x.judge(1), y -> y.judge(1));
    asks("body", x.body(1), y -> y.body(1));
    asks("count", x.count(7), y -> y.count(7));
    asks("told", x.told(1), y -> y.told(1));
    Supplier<OilMemories> fitting = () -> {
      OilMemories y = State.rich();
      y.sheet(0, 8, 4);
      for (int i = 0; i < 4; i++) {
        y.put(0, i, y.then(i, 40));
      }
      return y;
    };
    int nights = fitting.get().fits(0);
    Due.holds("some nights go by in thought", nights > 20);
    same("fits", fitting, y -> y.fits(0), nights, false);
  }

  /** Answers that look like an ERROR, and acts that answer 0 or less: told() doesn't count them. */
  private static void answersThatAreNoErrors() {
    Due.part("no errors");
    OilMemories x = State.four();
    for (int k = 1; k <= 6; k++) {
      x.seed(Due.LOW - k);
      Due.due("count(7)", x.count(7), Due.LOW - k);
      Due.due("seed", x.seed(0), Due.LOW - k);
      Due.due("voice", x.voice(0, 0, Due.LOW - k), Due.LOW - k);
    }
    Due.due("a fault", Due.text(x, 0, "?"), -10);
    Due.due("no dears", zeroes(x, 100), 0);
    x.tell(98);
    Due.due("check", x.check(), 1);
    Due.due("untell", x.untell(0), 0);
    for (int k = 1; k <= 6; k++) {
      Due.due("told(" + k + ")", x.told(k), 0);
    }
  }

  private static int zeroes(OilMemories x, int first) {
    x.sheet(0, 32, 2);
    x.put(0, 0, first);
    return x.dears(0);
  }
}
