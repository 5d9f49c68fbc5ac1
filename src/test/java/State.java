import java.util.ArrayList;
import java.util.List;

/** Objects to start from, and all that can be seen of one from outside. */
final class State {
  private static final int END = 9999;

  private State() {
  }

  /** Four memories of four kinds, all else as at first. */
  static OilMemories four() {
    OilMemories x = new OilMemories();
    x.memory(5, 1, 310);
    x.memory(14, 7, 520);
    x.memory(42, 15, 1050);
    x.memory(60, 8, 9901);
    return x;
  }

  /** Something of all: texts, bytes on the tape, sheets, numbers that wait, a trace, an image unlike what is now. */
  static OilMemories rich() {
    OilMemories x = four();
    Due.text(x, 0, "l+n*2");
    Due.feed(x, "w+4");
    x.tell(3);
    x.blows(8);
    x.image();
    x.text(1);
    x.check();
    x.memory(39, 5, 777);
    x.blows(4);
    x.seed(77);
    x.loose(2);
    Due.feed(x, "l*2+o");
    for (int memory = 0; memory < x.count(0); memory++) {
      x.tell(x.memoryIs(memory, 3));
    }
    x.sheet(0, 8, 3);
    x.sheet(1, 16, 4);
    x.sheet(2, 32, 2);
    for (int i = 0; i < 2; i++) {
      x.put(0, i, 10 + i);
      x.put(1, i, 20 + i);
      x.put(2, i, 30 + i);
    }
    x.voice(2, 2, 9);
    return x;
  }

  /** As many memories, bytes on the tape and numbers that wait as there may be. */
  static OilMemories full() {
    OilMemories x = new OilMemories();
    for (int memory = 0; memory < 9; memory++) {
      x.memory(10 * (memory % 7) + memory, 1 + memory, 100 * memory + 5);
    }
    Due.feed(x, "l+".repeat(29) + "o1");
    for (int i = 0; i < 24; i++) {
      x.tell(i < 9 ? i : 0);
    }
    x.sheet(0, 8, 24);
    x.sheet(1, 8, 24);
    for (int i = 0; i < 24; i++) {
      x.put(1, i, i);
    }
    return x;
  }

  /** One in which so many nights went by, and all were dark. */
  static OilMemories inNight(int night) {
    OilMemories x = new OilMemories();
    for (int left = night; left > 0; left -= 60) {
      x.nights(Math.min(60, left));
    }
    x.memory(23, 2, 1234);
    x.blows(2);
    x.seed(5);
    return x;
  }

  static OilMemories atTheEnd() {
    return inNight(END);
  }

  /** All that can be seen but for what told() tells; the object isn't as it was behind that. */
  static List<Integer> seen(OilMemories x) {
    List<Integer> all = new ArrayList<>();
    asked(x, all);
    sheets(x, all);
    spent(x, 0, all);
    all.add(x.restore());
    asked(x, all);
    spent(x, 1, all);
    all.add(x.image());
    return all;
  }

  private static void asked(OilMemories x, List<Integer> all) {
    for (int what = 0; what <= 7; what++) {
      all.add(x.count(what));
    }
    for (int i = 0; i < x.count(6); i++) {
      all.add(x.body(i));
    }
    for (int memory = 0; memory < x.count(0); memory++) {
      for (int what = 0; what <= 6; what++) {
        all.add(x.memoryIs(memory, what));
      }
      all.add(x.voice(memory, 1, 1));
    }
    laws(x, all);
  }

  private static void laws(OilMemories x, List<Integer> all) {
    for (int a = 0; a < 3; a++) {
      all.add(x.law(0, 5 + a, 3 * a, 1));
      all.add(x.law(1, 5 + a, 3 * a, 1));
    }
  }

  /** Bits by which sheets go to one another, then each number as it makes the first memory dear. */
  private static void sheets(OilMemories x, List<Integer> all) {
    if (x.count(0) == 0) {
      x.memory(0, 1, 0);
    }
    for (int sheet = 0; sheet <= 3; sheet++) {
      for (int other = 0; other <= 3; other++) {
        all.add(x.move(sheet, 0, other, 0, 0));
      }
      for (int i = 0; x.move(sheet, i, sheet, 0, 1) == 1; i++) {
        all.add(x.dears(sheet) > 0 ? x.memoryIs(0, 4) : -1);
      }
    }
  }

  private static void spent(OilMemories x, int use, List<Integer> all) {
    all.add(x.text(use));
    laws(x, all);
    all.add(x.check());
  }
}
