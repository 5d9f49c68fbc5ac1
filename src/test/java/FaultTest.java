import java.util.HashSet;
import java.util.Set;
import java.util.TreeSet;

/**
 * Term 2's FAULT by its own words: all TEXTS of some bytes are written out from the grammar, up to a
 * length; the FAULT of a row of bytes is the place of the first one with which none of them goes on.
 */
public final class FaultTest {
  private static final int MOST_OPEN = 5;
  private static final String[] SIGNS = {"|", "&", "<=>", "+-", "*/%"};
  private static final int COMPARED = 2;
  private static final int UNIT = 5;

  private static String bytes;
  private static String names;
  private static OilMemories x = new OilMemories();
  private static int calls = 0;

  public static void main(String[] args) {
    for (int use = 0; use <= 1; use++) {
      faults(use, "1+<&!()", 4, 9);
      faults(use, "0|=*()", 4, 9);
      faults(use, "1!()", 7, 15);
      faults(use, "1-", 10, 11);
      faults(use, "7<>&", 6, 7);
      faults(use, "3=|/%", 5, 6);
      faults(use, "lonwdk5+", 4, 5);
      faults(use, "lw!()", 4, 9);
      faults(use, "dn ,9", 4, 5);
    }
    Due.end();
  }

  /** With rows of n bytes no TEXT above 2 * n + 1 is needed: an operand ends it, and a ) for each (. */
  private static void faults(int use, String ofBytes, int rowLength, int textLength) {
    Due.part("use " + use + ", bytes " + ofBytes);
    bytes = ofBytes;
    names = use == 0 ? "lon" : "wdk";
    Set<String> texts = written(0, textLength, MOST_OPEN);
    Set<String> goneOnWith = new HashSet<>();
    for (String text : texts) {
      for (int i = 0; i <= Math.min(text.length(), rowLength); i++) {
        goneOnWith.add(text.substring(0, i));
      }
    }
    Due.holds("there are texts", texts.size() > 1);
    tryAll(use, "", rowLength, texts, goneOnWith);
  }

  private static void tryAll(int use, String row, int rowLength, Set<String> texts, Set<String> goneOnWith) {
    int due = texts.contains(row) ? 1 : -10 - fault(row, goneOnWith);
    Due.due("'" + row + "'", Due.text(used(), use, row), due);
    for (int i = 0; i < bytes.length() && row.length() < rowLength; i++) {
      tryAll(use, row + bytes.charAt(i), rowLength, texts, goneOnWith);
    }
  }

  private static int fault(String row, Set<String> goneOnWith) {
    for (int place = 0; place < row.length(); place++) {
      if (!goneOnWith.contains(row.substring(0, place + 1))) {
        return place;
      }
    }
    return row.length();
  }

  /** An object that isn't used beyond its 512 calls; a row here takes three at most. */
  private static OilMemories used() {
    calls += 3;
    if (calls > 512) {
      x = new OilMemories();
      calls = 3;
    }
    return x;
  }

  /** All that a part of the grammar gives of the bytes, up to a length, with so many ! and ( yet to open. */
  private static Set<String> written(int part, int length, int toOpen) {
    if (part == UNIT) {
      return units(length, toOpen);
    }
    Set<String> first = written(part + 1, length, toOpen);
    Set<String> all = new HashSet<>(first);
    Set<String> latest = first;
    for (int more = 0; !latest.isEmpty() && (part != COMPARED || more < 1); more++) {
      latest = joined(latest, SIGNS[part], first, length);
      all.addAll(latest);
    }
    return all;
  }

  private static Set<String> joined(Set<String> ahead, String signs, Set<String> behind, int length) {
    Set<String> all = new HashSet<>();
    for (int s = 0; s < signs.length(); s++) {
      if (bytes.indexOf(signs.charAt(s)) < 0) {
        continue;
      }
      for (String a : ahead) {
        for (String b : behind) {
          if (a.length() + 1 + b.length() <= length) {
            all.add(a + signs.charAt(s) + b);
          }
        }
      }
    }
    return all;
  }

  private static Set<String> units(int length, int toOpen) {
    Set<String> all = new TreeSet<>();
    for (int i = 0; i < bytes.length() && length >= 1; i++) {
      char c = bytes.charAt(i);
      if (names.indexOf(c) >= 0) {
        all.add("" + c);
      } else if (Character.isDigit(c)) {
        numbers("" + c, length, all);
      } else if (c == '!' && toOpen > 0) {
        for (String unit : units(length - 1, toOpen - 1)) {
          all.add("!" + unit);
        }
      } else if (c == '(' && toOpen > 0 && length >= 3) {
        for (String text : written(0, length - 2, toOpen - 1)) {
          all.add("(" + text + ")");
        }
      }
    }
    return all;
  }

  private static void numbers(String number, int length, Set<String> all) {
    if (number.length() > Math.min(4, length)) {
      return;
    }
    all.add(number);
    for (int i = 0; i < bytes.length(); i++) {
      if (Character.isDigit(bytes.charAt(i))) {
        numbers(number + bytes.charAt(i), length, all);
      }
    }
  }
}
