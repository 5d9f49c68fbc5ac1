import java.io.IOException;
import java.lang.reflect.Constructor;
import java.lang.reflect.Field;
import java.lang.reflect.Method;
import java.lang.reflect.Modifier;
import java.nio.file.Files;
import java.nio.file.Path;
import java.util.Set;
import java.util.TreeSet;
import java.util.regex.Matcher;
import java.util.regex.Pattern;

/** The public face, and what can be seen of LANGUAGE.md's rules; the argument is the program's file. */
public final class FaceTest {
  private static final String[] FACE = {
    "as(int, int)", "become(int, int)", "blows(int)", "body(int)", "check()", "count(int)", "dear(int, int)",
    "dears(int)", "feed(long, int)", "fills(int, int)", "fits(int)", "has(int)", "image()", "judge(int)", "lasts()",
    "law(int, int, int, int)", "loose(int)", "memory(int, int, int)", "memoryIs(int, int)", "mixes(int, int)",
    "move(int, int, int, int, int)", "nights(int)", "odds(int)", "put(int, int, int)", "restore()", "seed(int)",
    "sheet(int, int, int)", "tell(int)", "tells(int, int)", "text(int)", "then(int, int)", "told(int)", "tonight(int)",
    "trim(int, int)", "untell(int)", "voice(int, int, int)", "without(int)",
  };

  public static void main(String[] args) throws IOException {
    face();
    members();
    nested();
    words(code(Files.readString(Path.of(args[0]))));
    Due.end();
  }

  private static String sign(Method m) {
    StringBuilder s = new StringBuilder(m.getName()).append('(');
    for (Class<?> p : m.getParameterTypes()) {
      s.append(s.charAt(s.length() - 1) == '(' ? "" : ", ").append(p.getName());
    }
    return s.append(')').toString();
  }

  private static void face() {
    Due.part("the face");
    Set<String> signs = new TreeSet<>();
    for (Method m : OilMemories.class.getDeclaredMethods()) {
      if (Modifier.isPublic(m.getModifiers())) {
        signs.add(sign(m));
        Due.holds(m.getName() + " gives an int", m.getReturnType() == int.class);
        Due.holds(m.getName() + " is of an object", !Modifier.isStatic(m.getModifiers()));
      }
    }
    Due.holds("the calls are " + signs, signs.equals(new TreeSet<>(Set.of(FACE))));
    int modifiers = OilMemories.class.getModifiers();
    Due.holds("public and final", Modifier.isPublic(modifiers) && Modifier.isFinal(modifiers));
    Constructor<?>[] made = OilMemories.class.getDeclaredConstructors();
    Due.holds("one constructor", made.length == 1 && made[0].getParameterCount() == 0 && Modifier.isPublic(made[0].getModifiers()));
  }

  private static void members() {
    Due.part("rules 1 and 5");
    Set<String> names = new TreeSet<>();
    for (String sign : FACE) {
      names.add(sign.substring(0, sign.indexOf('(')));
    }
    for (Field f : OilMemories.class.getDeclaredFields()) {
      Due.holds(f.getName() + " is private", Modifier.isPrivate(f.getModifiers()));
    }
    for (Method m : OilMemories.class.getDeclaredMethods()) {
      boolean hidden = Modifier.isPrivate(m.getModifiers());
      Due.holds(m.getName() + " is public or private", hidden || Modifier.isPublic(m.getModifiers()));
      Due.holds(m.getName() + " has a name of its own", !hidden || !names.contains(m.getName()));
    }
  }

  private static void nested() {
    Class<?>[] classes = OilMemories.class.getDeclaredClasses();
    Due.holds("some twelve classes", classes.length <= 11);
    for (Class<?> c : classes) {
      Due.holds(c.getName() + " is static", Modifier.isStatic(c.getModifiers()));
      Due.holds(c.getName() + " is not public", !Modifier.isPublic(c.getModifiers()));
      Due.holds(c.getName() + " has none inside", c.getDeclaredClasses().length == 0);
      fields(c);
    }
    fields(OilMemories.class);
  }

  private static void fields(Class<?> c) {
    int own = 0;
    for (Field f : c.getDeclaredFields()) {
      boolean constant = Modifier.isStatic(f.getModifiers());
      Due.holds(c.getName() + "." + f.getName() + " is final, if static", !constant || Modifier.isFinal(f.getModifiers()));
      own += constant ? 0 : 1;
    }
    Due.holds(c.getName() + " has some twenty fields", own <= 20);
    for (Method m : c.getDeclaredMethods()) {
      Due.holds(m.getName() + " takes seven at most", m.getParameterCount() <= 7);
    }
  }

  /** The code without its comments, with each character and text constant made 0. */
  private static String code(String file) {
    return file.replaceAll("(?s)/\\*.*?\\*/", " ").replaceAll("//[^\n]*", " ").replaceAll("'[^'\n]+'", "0")
        .replaceAll("\"[^\"\n]*\"", "0");
  }

  private static void words(String code) {
    Due.part("rules 2 to 6, 9, 13");
    String[] never = {"throw", "throws", "try", "catch", "finally", "synchronized", "assert", "instanceof", "import", "package",
      "equals", "hashCode", "toString", "lambda", "record", "protected", "volatile", "transient", "native", "double", "float",
      "Object", "Thread", "Random", "String", "Exact", "var"};
    for (String word : never) {
      Due.holds("no " + word, !Pattern.compile("\\b" + word + "\\b").matcher(code).find());
    }
    Due.holds("no lambda, no method reference", !code.contains("->") && !code.contains("::"));
    Due.holds("no endless loop", !code.contains("while (true)") && !code.contains("for (;;"));
    Matcher library = Pattern.compile("\\b(System|Math|Integer|Long|Arrays|List|ArrayList)\\.(\\w+)").matcher(code);
    Set<String> allowed = Set.of("Math.min", "Math.max", "Integer.bitCount");
    while (library.find()) {
      Due.holds(library.group() + " is of the library", allowed.contains(library.group()));
    }
    Matcher made = Pattern.compile("\\bnew (\\w+)").matcher(code);
    Set<String> own = Set.of("Tower", "Memory", "Choice", "Text", "Reader", "Voices", "Row", "Sheet", "int");
    while (made.find()) {
      Due.holds("new " + made.group(1), own.contains(made.group(1)));
    }
    methodsAreShort(code);
  }

  private static void methodsAreShort(String code) {
    int depth = 0;
    int lines = 0;
    boolean inMethod = false;
    for (String line : code.split("\n")) {
      boolean starts = !inMethod && line.matches(" {2,4}[\\w\\[\\]]+ ?.*\\) \\{") && !line.contains(" new ");
      if (starts) {
        inMethod = true;
        depth = 0;
        lines = 0;
      }
      if (inMethod) {
        lines++;
        depth += count(line, '{') - count(line, '}');
        if (depth == 0) {
          inMethod = false;
          Due.holds("a method of " + lines + " lines", lines <= 60);
        }
      }
    }
  }

  private static int count(String line, char c) {
    return (int) line.chars().filter(x -> x == c).count();
  }
}
