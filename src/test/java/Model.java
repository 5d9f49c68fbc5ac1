import java.util.ArrayList;
import java.util.Arrays;
import java.util.List;
import java.util.TreeMap;

/**
 * The document once more, as plainly as it goes and by other means than the program's: kinds that
 * are real classes, errors that are thrown, all sets tried one by one, texts cut at their signs.
 */
final class Model {
  static final class Refused extends RuntimeException {
    private static final long serialVersionUID = 1L;

    final int k;

    Refused(int k) {
      this.k = k;
    }
  }

  private static void ask(boolean good, int k) {
    if (!good) {
      throw new Refused(k);
    }
  }

  static class Evening {
    int k;
    int m;
    int whose;
    int left;
    int dear;
    List<Integer> trace = new ArrayList<>();

    int keepers() {
      return Integer.toBinaryString(whose).replace("0", "").length();
    }

    int burns(int night) {
      return 10 + m;
    }

    int smoke(int weather) {
      return weather / 3;
    }

    int glows(int x) {
      trace.add(10);
      return x + k;
    }

    int turns(int x) {
      trace.add(11);
      return glows(x) * 2;
    }

    int gutters(int x) {
      trace.add(12);
      return turns(x) - m;
    }

    int parts(int x) {
      trace.add(13);
      ask(m != k, 6);
      return x / (m - k);
    }
  }

  static class Dance extends Evening {
    int burns(int night) {
      return super.burns(night) + 5;
    }

    int smoke(int weather) {
      return super.smoke(weather) + (keepers() >= 3 ? 3 : 0);
    }

    int glows(int x) {
      trace.add(20);
      return super.glows(x) - 4;
    }

    int parts(int x) {
      trace.add(21);
      return super.parts(x) + turns(1);
    }
  }

  static class Boyhood extends Evening {
    int burns(int night) {
      return super.burns(night) * 2;
    }

    int smoke(int weather) {
      return 0;
    }

    int turns(int x) {
      trace.add(30);
      return 0 - super.turns(x);
    }
  }

  static class Sorrow extends Evening {
    int burns(int night) {
      return super.burns(night) / 2;
    }

    int smoke(int weather) {
      return super.smoke(weather) + m + 2;
    }

    int gutters(int x) {
      trace.add(40);
      return super.gutters(x / 2);
    }
  }

  static class Regatta extends Dance {
    int burns(int night) {
      return super.burns(night) + 10 * (keepers() - 1);
    }

    int smoke(int weather) {
      return super.smoke(weather) + keepers();
    }

    int glows(int x) {
      trace.add(50);
      return super.glows(x) * 3;
    }

    int gutters(int x) {
      trace.add(51);
      return super.gutters(x) ^ k;
    }
  }

  static class Mother extends Boyhood {
    int burns(int night) {
      return super.burns(night) + night % 5;
    }

    int smoke(int weather) {
      return super.smoke(weather) + weather;
    }

    int turns(int x) {
      trace.add(60);
      return super.turns(x + 1);
    }
  }

  static class Farm extends Evening {
    int burns(int night) {
      return 4 + left / 10;
    }

    int smoke(int weather) {
      return 0;
    }

    int glows(int x) {
      trace.add(70);
      return 9;
    }

    int turns(int x) {
      trace.add(71);
      return super.turns(x) + m;
    }
  }

  private static final List<Class<? extends Evening>> KINDS = List.of(
      Evening.class, Dance.class, Boyhood.class, Sorrow.class, Regatta.class, Mother.class, Farm.class);

  private static Evening make(int kind) {
    switch (kind) {
      case 0: return new Evening();
      case 1: return new Dance();
      case 2: return new Boyhood();
      case 3: return new Sorrow();
      case 4: return new Regatta();
      case 5: return new Mother();
      default: return new Farm();
    }
  }

  private static Evening make(int kind, int m, Evening like) {
    Evening e = make(kind);
    e.k = like.k;
    e.m = m;
    e.whose = like.whose;
    e.left = like.left;
    e.dear = like.dear;
    return e;
  }

  private static int kindOf(Evening e) {
    return KINDS.indexOf(e.getClass());
  }

  static final class Tower {
    List<Evening> memories = new ArrayList<>();
    int weather;
    int night;
    int dark;
    int z = 1;
    String[] texts = {null, null};
    String tape = "";
    List<Integer> waiting = new ArrayList<>();

    Tower copy() {
      Tower t = new Tower();
      for (Evening e : memories) {
        t.memories.add(make(kindOf(e), e.m, e));
      }
      t.weather = weather;
      t.night = night;
      t.dark = dark;
      t.z = z;
      t.texts = texts.clone();
      t.tape = tape;
      t.waiting = new ArrayList<>(waiting);
      return t;
    }

    int law(int use, int a, int b, int c) {
      int v;
      if (texts[use] == null) {
        v = use == 0 ? a : 5 + 3 * a;
      } else {
        v = worth(texts[use], use == 0 ? "lon" : "wdk", new int[] {a, b, c});
      }
      return Math.max(0, Math.min(use == 0 ? 99 : 199, v));
    }

    int light(Evening e) {
      return law(0, e.burns(night), e.keepers(), night % 7);
    }

    int gives(Evening e) {
      return light(e) - e.smoke(weather);
    }

    int wanted() {
      int keepers = 0;
      for (int keeper = 0; keeper < 4; keeper++) {
        boolean any = false;
        for (Evening e : memories) {
          any |= e.left > 0 && (e.whose >> keeper) % 2 == 1;
        }
        keepers += any ? 1 : 0;
      }
      return law(1, weather, night % 7, keepers);
    }

    int giveTogether(int set) {
      int all = 0;
      for (Evening e : memories) {
        all += (set >> e.k & 1) == 1 ? gives(e) : 0;
      }
      return all;
    }

    int dearTogether(int set) {
      int all = 0;
      for (Evening e : memories) {
        all += (set >> e.k & 1) == 1 ? e.dear : 0;
      }
      return all;
    }

    /** The set for tonight, or -1. */
    int tonight(int spared) {
      int[] gives = new int[memories.size()];
      for (Evening e : memories) {
        gives[e.k] = gives(e);
      }
      int wanted = wanted();
      TreeMap<Integer, Integer> firstByDear = new TreeMap<>();
      for (int set = 0; set < 1 << memories.size(); set++) {
        boolean burnable = true;
        int all = 0;
        for (Evening e : memories) {
          if ((set >> e.k & 1) == 1) {
            burnable &= e.left > 0 && e.k != spared;
            all += gives[e.k];
          }
        }
        if (burnable && all >= wanted) {
          firstByDear.putIfAbsent(dearTogether(set), set);
        }
      }
      return firstByDear.isEmpty() ? -1 : firstByDear.firstEntry().getValue();
    }

    boolean night(int spared) {
      int set = tonight(spared);
      for (Evening e : memories) {
        e.left -= set >= 0 && (set >> e.k & 1) == 1 ? 1 : 0;
      }
      dark = set < 0 && dark < 9999 ? dark + 1 : dark;
      night++;
      return set >= 0;
    }

    int draw() {
      z = z * 1103515245 + 12345;
      return z >>> 8;
    }

    int lasts(int spared) {
      Tower t = copy();
      for (int n = 0; n < 60; n++) {
        if (!t.night(spared)) {
          return n;
        }
      }
      return 60;
    }
  }

  // ---- texts

  private static final String[] LEVELS = {"|", "&", "<=>", "+-", "*/%"};

  /** What a text without faults is worth: it is cut at the last sign of the lowest level that stands bare. */
  private static int worth(String s, String names, int[] values) {
    for (int level = 0; level < LEVELS.length; level++) {
      int open = 0;
      for (int i = s.length() - 1; i > 0; i--) {
        char c = s.charAt(i);
        open += c == ')' ? 1 : c == '(' ? -1 : 0;
        if (open == 0 && LEVELS[level].indexOf(c) >= 0) {
          int a = worth(s.substring(0, i), names, values);
          int b = worth(s.substring(i + 1), names, values);
          return join(c, a, b);
        }
      }
    }
    if (s.charAt(0) == '!') {
      return worth(s.substring(1), names, values) == 0 ? 1 : 0;
    }
    if (s.charAt(0) == '(') {
      return worth(s.substring(1, s.length() - 1), names, values);
    }
    int name = names.indexOf(s.charAt(0));
    return name >= 0 ? values[name] : Integer.parseInt(s);
  }

  private static int join(char sign, int a, int b) {
    long x = a;
    long y = b;
    switch (sign) {
      case '|': return a == 0 && b == 0 ? 0 : 1;
      case '&': return a == 0 || b == 0 ? 0 : 1;
      case '<': return x - y < 0 ? 1 : 0;
      case '=': return x - y == 0 ? 1 : 0;
      case '>': return x - y > 0 ? 1 : 0;
      case '+': return (int) (x + y);
      case '-': return (int) (x - y);
      case '*': return (int) (x * y);
      case '/': return b == 0 ? 0 : (int) (x / y);
      default: return b == 0 ? 0 : (int) (x % y);
    }
  }

  /** The place of the fault, -1 if there is none, by what may stand next: an operand or what is behind one. */
  static int fault(String s, String names) {
    List<Character> opens = new ArrayList<>();
    List<Boolean> compared = new ArrayList<>(List.of(false));
    boolean behind = false;
    int digits = 0;
    for (int i = 0; i < s.length(); i++) {
      char c = s.charAt(i);
      boolean digit = c >= '0' && c <= '9';
      if (!behind) {
        if (c == '!' || c == '(') {
          if (opens.size() == 5) {
            return i;
          }
          opens.add(c);
          if (c == '(') {
            compared.add(false);
          }
          continue;
        }
        if (!digit && names.indexOf(c) < 0) {
          return i;
        }
        digits = digit ? 1 : 0;
        behind = true;
        closeNots(opens);
        continue;
      }
      if (digit && digits >= 1 && digits < 4) {
        digits++;
        continue;
      }
      digits = 0;
      int top = compared.size() - 1;
      if (c == ')' && !opens.isEmpty()) {
        opens.remove(opens.size() - 1);
        compared.remove(top);
        closeNots(opens);
      } else if ("+-*/%".indexOf(c) >= 0) {
        behind = false;
      } else if ("<=>".indexOf(c) >= 0 && !compared.get(top)) {
        compared.set(top, true);
        behind = false;
      } else if ("&|".indexOf(c) >= 0) {
        compared.set(top, false);
        behind = false;
      } else {
        return i;
      }
    }
    return behind && opens.isEmpty() ? -1 : s.length();
  }

  private static void closeNots(List<Character> opens) {
    while (!opens.isEmpty() && opens.get(opens.size() - 1) == '!') {
      opens.remove(opens.size() - 1);
    }
  }

  // ---- the calls

  private Tower now = new Tower();
  private Tower kept = null;
  private int images = 0;
  private List<Integer> trace = new ArrayList<>();
  private final long[][] sheets = new long[4][];
  private final int[] bits = new int[4];
  private final int[] told = new int[7];

  /** The answer of a call; 'told' counts what is refused. */
  long call(String name, long[] a) {
    try {
      return answer(name, a);
    } catch (Refused r) {
      told[r.k]++;
      return -1000000000L - r.k;
    }
  }

  private Evening at(long memory) {
    ask(memory >= 0 && memory < now.memories.size(), 1);
    return now.memories.get((int) memory);
  }

  private static int in(long v, int least, int most) {
    ask(v >= least && v <= most, 1);
    return (int) v;
  }

  private long[] sheet(long sheet) {
    in(sheet, 0, 3);
    ask(sheets[(int) sheet] != null, 2);
    return sheets[(int) sheet];
  }

  private long answer(String name, long[] a) {
    switch (name) {
      case "memory": return memory(in(a[0], 0, 69), in(a[1], 1, 15), in(a[2], 0, 9999));
      case "memoryIs": return memoryIs(at(a[0]), in(a[1], 0, 6));
      case "become": return become(at(a[0]), in(a[1], 0, 69));
      case "as": return as(at(a[0]), in(a[1], 0, 6));
      case "fills": return fills(at(a[0]), in(a[1], 0, 99));
      case "dear": return dear(at(a[0]), in(a[1], 0, 99));
      case "trim": return trim(at(a[0]), in(a[1], 0, 3));
      case "tells": return tells(at(a[0]), in(a[1], 0, 3));
      case "blows": return blows(in(a[0], 0, 9));
      case "feed": return feed(a[0], in(a[1], 1, 8));
      case "text": return text(in(a[0], 0, 1));
      case "untell": return untell(in(a[0], 0, 1));
      case "law": return now.law(in(a[0], 0, 1), (int) a[1], (int) a[2], (int) a[3]);
      case "nights": return nights(in(a[0], 1, 60));
      case "loose": return loose(in(a[0], 1, 30));
      case "seed": return seed((int) a[0]);
      case "tonight": return tonight(in(a[0], 0, 3));
      case "lasts": return now.lasts(-1);
      case "without": return now.lasts(-1) - now.lasts(at(a[0]).k);
      case "then": return then(at(a[0]).k, in(a[1], 0, 60));
      case "has": return has(in(a[0], 0, 3));
      case "mixes": return mixes(at(a[0]), in(a[1], 0, 1));
      case "odds": return odds(in(a[0], 0, 1));
      case "fits": return fits(sheet(a[0]));
      default: return answerOfTheRest(name, a);
    }
  }

  private long answerOfTheRest(String name, long[] a) {
    switch (name) {
      case "voice": return voice(at(a[0]), in(a[1], 0, 3), (int) a[2]);
      case "body": return body((int) a[0]);
      case "sheet": return sheet(in(a[0], 0, 3), (int) a[1], (int) a[2]);
      case "put": return put(sheet(a[0]), bits[(int) a[0]], (int) a[1], (int) a[2]);
      case "move": return move(a);
      case "dears": return dears(sheet(a[0]));
      case "judge": return judge(sheet(a[0]));
      case "image": kept = now.copy(); images++; return images;
      case "restore": ask(kept != null, 2); now = kept.copy(); return now.night;
      case "tell": ask(now.waiting.size() < 24, 4); now.waiting.add((int) a[0]); return now.waiting.size();
      case "check": return check();
      case "count": return count(in(a[0], 0, 7));
      case "told": return told[a[0] < 1 ? in(-1, 0, 0) : in(a[0], 1, 6)];
      default: throw new IllegalStateException(name);
    }
  }

  private int memory(int km, int whose, int ld) {
    ask(now.memories.size() < 9, 4);
    Evening e = make(km / 10);
    e.k = now.memories.size();
    e.m = km % 10;
    e.whose = whose;
    e.left = ld / 100;
    e.dear = ld % 100;
    now.memories.add(e);
    return e.k;
  }

  private int memoryIs(Evening e, int what) {
    return new int[] {kindOf(e), e.m, e.whose, e.left, e.dear, now.light(e), e.smoke(now.weather)}[what];
  }

  private int become(Evening e, int km) {
    now.memories.set(e.k, make(km / 10, km % 10, e));
    return kindOf(e);
  }

  private int as(Evening e, int kind) {
    ask(KINDS.get(kind).isInstance(e), 5);
    return e.m;
  }

  private int fills(Evening e, int left) {
    int was = e.left;
    e.left = left;
    return was;
  }

  private int dear(Evening e, int dear) {
    int was = e.dear;
    e.dear = dear;
    return was;
  }

  private int trim(Evening e, int keeper) {
    boolean was = (e.whose >> keeper) % 2 == 1;
    ask(!was || e.keepers() > 1, 3);
    e.whose -= was ? 1 << keeper : 0;
    return was ? 1 : 0;
  }

  private int tells(Evening e, int keeper) {
    boolean was = (e.whose >> keeper) % 2 == 1;
    e.whose += was ? 0 : 1 << keeper;
    return was ? 1 : 0;
  }

  private int blows(int v) {
    int was = now.weather;
    now.weather = v;
    return was;
  }

  private int feed(long word, int n) {
    ask(now.tape.length() + n <= 60, 4);
    for (int i = 0; i < n; i++) {
      now.tape += (char) (word & 255);
      word >>= 8;
    }
    return now.tape.length();
  }

  private int text(int use) {
    int fault = fault(now.tape, use == 0 ? "lon" : "wdk");
    if (fault < 0) {
      now.texts[use] = now.tape;
    }
    now.tape = "";
    return fault < 0 ? 1 : -10 - fault;
  }

  private int untell(int use) {
    boolean was = now.texts[use] != null;
    now.texts[use] = null;
    return was ? 1 : 0;
  }

  private int nights(int n) {
    ask(now.night + n <= 9999, 3);
    int lit = 0;
    while (n-- > 0) {
      lit += now.night(-1) ? 1 : 0;
    }
    return lit;
  }

  private int loose(int n) {
    ask(now.night + n <= 9999, 3);
    int lit = 0;
    while (n-- > 0) {
      now.weather = now.draw() % 10;
      if (!now.memories.isEmpty() && now.draw() % 8 == 0) {
        Evening e = now.memories.get(now.draw() % now.memories.size());
        e.left = Math.min(99, e.left + now.draw() % 5);
      }
      lit += now.night(-1) ? 1 : 0;
    }
    return lit;
  }

  private int seed(int v) {
    int was = now.z;
    now.z = v;
    return was;
  }

  private int tonight(int what) {
    if (what == 3) {
      return now.wanted();
    }
    int set = now.tonight(-1);
    ask(set >= 0, 2);
    return what == 0 ? set : what == 1 ? now.dearTogether(set) : now.giveTogether(set);
  }

  private int then(int k, int n) {
    Tower t = now.copy();
    while (n-- > 0) {
      t.night(-1);
    }
    return t.memories.get(k).left;
  }

  private int has(int keeper) {
    int all = 0;
    for (Evening e : now.memories) {
      all += (e.whose >> keeper) % 2 == 1 ? e.left * now.light(e) / e.keepers() : 0;
    }
    return all;
  }

  private int mixes(Evening e, int what) {
    TreeMap<Integer, Integer> firstByMost = new TreeMap<>();
    int was = e.whose;
    for (int set = 1; set < 16; set++) {
      e.whose = set;
      firstByMost.putIfAbsent(now.gives(e), set);
    }
    e.whose = was;
    return what == 0 ? firstByMost.lastEntry().getValue() : firstByMost.lastKey();
  }

  private int odds(int part) {
    int lit = 0;
    for (int w = 0; w < 10; w++) {
      Tower t = now.copy();
      t.weather = w;
      lit += t.tonight(-1) >= 0 ? 1 : 0;
    }
    int[] above = {0, 1, 1, 3, 2, 1, 3, 7, 4, 9, 1};
    int[] below = {1, 10, 5, 10, 5, 2, 5, 10, 5, 10, 1};
    return part == 0 ? above[lit] : below[lit];
  }

  private int fits(long[] sheet) {
    Tower t = now.copy();
    for (int n = 0; n <= 60; n++) {
      boolean so = sheet.length <= t.memories.size();
      for (int i = 0; so && i < sheet.length; i++) {
        so = t.memories.get(i).left == sheet[i];
      }
      if (so) {
        return n;
      }
      t.night(-1);
    }
    throw new Refused(2);
  }

  private int voice(Evening e, int voice, int x) {
    e.trace = new ArrayList<>();
    trace = e.trace;
    return voice == 0 ? e.glows(x) : voice == 1 ? e.turns(x) : voice == 2 ? e.gutters(x) : e.parts(x);
  }

  private int body(int i) {
    ask(i >= 0 && i < Math.min(30, trace.size()), 2);
    return trace.get(i);
  }

  private int sheet(int sheet, int newBits, int n) {
    ask(List.of(0, 8, 16, 32).contains(newBits), 1);
    if (newBits == 0) {
      sheets[sheet] = null;
      return 1;
    }
    ask(n >= 0, 3);
    ask(n <= 24, 1);
    sheets[sheet] = new long[n];
    bits[sheet] = newBits;
    return 1;
  }

  private static int put(long[] sheet, int bits, int i, int v) {
    ask(i >= 0 && i < sheet.length, 1);
    sheet[i] = v & (1L << bits) - 1;
    return 1;
  }

  private int move(long[] a) {
    in(a[0], 0, 3);
    in(a[2], 0, 3);
    long[] from = sheet(a[0]);
    long[] to = sheet(a[2]);
    ask(bits[(int) a[0]] == bits[(int) a[2]], 5);
    ask(a[1] >= 0 && a[3] >= 0 && a[4] >= 0 && a[1] + a[4] <= from.length && a[3] + a[4] <= to.length, 1);
    long[] taken = Arrays.copyOfRange(from, (int) a[1], (int) (a[1] + a[4]));
    System.arraycopy(taken, 0, to, (int) a[3], taken.length);
    return taken.length;
  }

  private int dears(long[] sheet) {
    int n = 0;
    while (n < sheet.length && n < now.memories.size() && sheet[n] < 100) {
      now.memories.get(n).dear = (int) sheet[n];
      n++;
    }
    return n;
  }

  private int judge(long[] sheet) {
    int n = 0;
    while (n < sheet.length && n < now.memories.size() && sheet[n] == now.light(now.memories.get(n))) {
      n++;
    }
    return n;
  }

  private int check() {
    List<Integer> waited = now.waiting;
    now.waiting = new ArrayList<>();
    for (int i = 0; i < waited.size(); i++) {
      if (i >= now.memories.size() || now.memories.get(i).left != waited.get(i)) {
        return 1 + i;
      }
    }
    return 0;
  }

  private int count(int what) {
    return new int[] {now.memories.size(), now.weather, now.night, now.dark, now.tape.length(), now.waiting.size(),
        Math.min(30, trace.size()), now.z}[what];
  }
}
