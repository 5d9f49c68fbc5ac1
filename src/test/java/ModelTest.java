import java.lang.reflect.InvocationTargetException;
import java.lang.reflect.Method;
import java.util.Map;
import java.util.Random;
import java.util.TreeMap;

/** Long runs of calls, by a fixed seed, on the program and on the model: each answer is the same. */
public final class ModelTest {
  private static final int RUNS = 400;
  private static final int CALLS = 512;
  private static final int MOST_AT_ONCE = 10;
  private static final int MOST_AT_THE_END = 14;
  private static final int[] EDGES = {-1, 0, 1, 2, 3, 4, 5, 6, 7, 8, 9, 10, 15, 16, 23, 24, 25, 29, 30, 31, 59, 60, 61, 69, 70,
      98, 99, 100, 127, 128, 199, 255, 256, 511, 9999, 10000, 65535, 65536, Integer.MAX_VALUE, Integer.MIN_VALUE, -1000000001};
  private static final String SIGNS = "0123456789lonwdk+-*/%<=>&|!() ?";

  private static final Map<String, Method> METHODS = new TreeMap<>();
  private static Random random;

  public static void main(String[] args) throws IllegalAccessException, InvocationTargetException {
    for (Method m : OilMemories.class.getDeclaredMethods()) {
      if (java.lang.reflect.Modifier.isPublic(m.getModifiers())) {
        METHODS.put(m.getName(), m);
      }
    }
    for (int run = 0; run < RUNS; run++) {
      Due.part("run " + run);
      random = new Random(1000 + run);
      run(run);
    }
    Due.end();
  }

  private static void run(int run) throws IllegalAccessException, InvocationTargetException {
    OilMemories x = new OilMemories();
    Model model = new Model();
    int calls = 0;
    String[] names = METHODS.keySet().toArray(new String[0]);
    int memories = random.nextInt(10);
    for (int i = 0; i < memories; i++) {
      calls += both(x, model, calls, "memory", random.nextInt(70), 1 + random.nextInt(15), ld());
    }
    while (calls <= CALLS - MOST_AT_ONCE - MOST_AT_THE_END) {
      String name = names[random.nextInt(names.length)];
      if (name.equals("text") && random.nextInt(4) != 0) {
        calls += text(x, model, calls);
      } else if (name.equals("fits") && random.nextBoolean()) {
        calls += fitting(x, model, calls);
      } else {
        calls += both(x, model, calls, name, arguments(name));
      }
    }
    for (int k = 1; k <= 6; k++) {
      calls += both(x, model, calls, "told", k);
    }
    for (int what = 0; what <= 7; what++) {
      calls += both(x, model, calls, "count", what);
    }
  }

  private static int ld() {
    return 100 * (random.nextInt(3) == 0 ? random.nextInt(100) : random.nextInt(8)) + random.nextInt(random.nextBoolean() ? 100 : 6);
  }

  private static int both(OilMemories x, Model model, int place, String name, long... a)
      throws IllegalAccessException, InvocationTargetException {
    Method m = METHODS.get(name);
    Object[] given = new Object[a.length];
    for (int i = 0; i < a.length; i++) {
      given[i] = m.getParameterTypes()[i] == long.class ? (Object) a[i] : (Object) (int) a[i];
    }
    long got = (Integer) m.invoke(x, given);
    Due.due("call " + place + ", " + name + java.util.Arrays.toString(a), got, model.call(name, a));
    return 1;
  }

  private static int text(OilMemories x, Model model, int place) throws IllegalAccessException, InvocationTargetException {
    int use = random.nextInt(2);
    StringBuilder made = new StringBuilder();
    write(made, use == 0 ? "lon" : "wdk", 0, 3 + random.nextInt(3));
    if (random.nextInt(3) == 0 && made.length() > 0) {
      made.setCharAt(random.nextInt(made.length()), SIGNS.charAt(random.nextInt(SIGNS.length())));
    }
    String text = made.length() > 60 ? made.substring(0, 60) : made.toString();
    int calls = both(x, model, place, "text", use);
    for (int from = 0; from < text.length(); from += 8) {
      int n = Math.min(8, text.length() - from);
      long word = random.nextLong();
      for (int i = n - 1; i >= 0; i--) {
        word = word << 8 | text.charAt(from + i);
      }
      calls += both(x, model, place + calls, "feed", word, n);
    }
    return calls + both(x, model, place + calls, "text", use);
  }

  /** Writes a text, with more in it the more levels are left. */
  private static void write(StringBuilder made, String names, int open, int levels) {
    int pick = random.nextInt(10);
    if (levels == 0 || pick < 2) {
      made.append(random.nextBoolean() ? "" + names.charAt(random.nextInt(3)) : "" + random.nextInt(random.nextBoolean() ? 10 : 12000));
    } else if (pick < 3) {
      made.append('!');
      write(made, names, open + 1, levels - 1);
    } else if (pick < 5) {
      made.append('(');
      write(made, names, open + 1, levels - 1);
      made.append(')');
    } else {
      write(made, names, open, levels - 1);
      made.append("+-*/%<=>&|".charAt(random.nextInt(10)));
      write(made, names, open, levels - 1);
    }
  }

  /** A sheet that tells what is left some nights on, more often than not. */
  private static int fitting(OilMemories x, Model model, int place) throws IllegalAccessException, InvocationTargetException {
    int n = random.nextInt(61);
    int size = random.nextInt(4);
    int sheet = random.nextInt(4);
    int calls = both(x, model, place, "sheet", sheet, 8 << random.nextInt(3), size);
    for (int i = 0; i < size; i++) {
      int left = x.then(i, n);
      model.call("then", new long[] {i, n});
      calls += 1 + both(x, model, place + calls, "put", sheet, i, left);
    }
    return calls + both(x, model, place + calls, "fits", sheet);
  }

  private static long[] arguments(String name) {
    Method m = METHODS.get(name);
    long[] a = new long[m.getParameterCount()];
    for (int i = 0; i < a.length; i++) {
      a[i] = random.nextInt(12) == 0 ? EDGES[random.nextInt(EDGES.length)] : usual(name, i);
    }
    return a;
  }

  private static int usual(String name, int i) {
    switch (name + " " + i) {
      case "memory 0": case "become 1": return random.nextInt(70);
      case "memory 1": return 1 + random.nextInt(15);
      case "memory 2": return ld();
      case "memoryIs 1": case "as 1": return random.nextInt(7);
      case "fills 1": return random.nextInt(random.nextBoolean() ? 100 : 5);
      case "dear 1": return random.nextInt(random.nextBoolean() ? 100 : 5);
      case "trim 1": case "tells 1": case "has 0": case "voice 1": case "tonight 0": return random.nextInt(4);
      case "blows 0": return random.nextInt(random.nextBoolean() ? 10 : 3);
      case "feed 0": return random.nextInt();
      case "feed 1": return 1 + random.nextInt(8);
      case "text 0": case "untell 0": case "law 0": case "mixes 1": case "odds 0": return random.nextInt(2);
      case "law 1": case "law 2": case "law 3": return random.nextInt(7) - 1;
      case "nights 0": return 1 + random.nextInt(random.nextInt(6) == 0 ? 60 : 3);
      case "loose 0": return 1 + random.nextInt(random.nextInt(6) == 0 ? 30 : 3);
      case "seed 0": return random.nextInt();
      case "then 1": return random.nextInt(random.nextBoolean() ? 61 : 9);
      case "voice 2": return random.nextInt(random.nextBoolean() ? 100 : Integer.MAX_VALUE) - 50;
      case "body 0": return random.nextInt(7);
      case "sheet 1": return random.nextInt(6) == 0 ? 0 : 8 << random.nextInt(3);
      case "sheet 2": return random.nextInt(10);
      case "put 1": case "move 1": case "move 3": return random.nextInt(5);
      case "put 2": return random.nextInt(2) * 256 + random.nextInt(105);
      case "move 4": return random.nextInt(4);
      case "tell 0": return random.nextInt(4);
      case "count 0": return random.nextInt(8);
      case "told 0": return random.nextInt(8);
      default: return name.startsWith("memory") || name.equals("become") || name.equals("as") || name.equals("fills")
          || name.equals("dear") || name.equals("trim") || name.equals("tells") || name.equals("without")
          || name.equals("then") || name.equals("mixes") || name.equals("voice") ? random.nextInt(9) : random.nextInt(4);
    }
  }
}
