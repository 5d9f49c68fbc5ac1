/** The tower whose keepers burn what was seen for oil; ../shared/DOC.md says what each call does. */
public final class OilMemories {
  private static final int LOW = -1000000000;
  private static final int BEYOND = 1;
  private static final int NONE = 2;
  private static final int STATE = 3;
  private static final int FULL = 4;
  private static final int UNLIKE = 5;
  private static final int PARTED = 6;

  private static final int KEEPERS = 4;
  private static final int MOST_MEMORIES = 9;
  private static final int MOST_BYTES = 60;
  private static final int MOST_WAITING = 24;
  private static final int MOST_NUMBERS = 24;
  private static final int MOST_BODIES = 30;
  private static final int MOST_OPEN = 5;
  private static final int SHEETS = 4;
  private static final int LAST_NIGHT = 9999;
  private static final int NIGHTS_AHEAD = 60;
  private static final int NOTHING = -1;

  private static final int EVENING = 0;
  private static final int DANCE = 1;
  private static final int BOYHOOD = 2;
  private static final int SORROW = 3;
  private static final int REGATTA = 4;
  private static final int MOTHER = 5;
  private static final int FARM = 6;
  private static final int[] KIND_ABOVE = {NOTHING, EVENING, EVENING, EVENING, DANCE, BOYHOOD, EVENING};

  private static final int LIGHT = 0;
  private static final int WANTED = 1;

  private final Tower tower = new Tower();
  private final Tower keptTower = new Tower();
  private final Tower thought = new Tower();
  private final Choice choice = new Choice();
  private final Row tape = new Row(MOST_BYTES);
  private final Row keptTape = new Row(MOST_BYTES);
  private final Row waiting = new Row(MOST_WAITING);
  private final Row keptWaiting = new Row(MOST_WAITING);
  private final Reader reader = new Reader();
  private final Voices voices = new Voices();
  private final Sheet[] sheets = new Sheet[SHEETS];
  private final int[] refusals = new int[PARTED + 1];
  private int images = 0;

  public OilMemories() {
    for (int i = 0; i < sheets.length; i++) {
      sheets[i] = new Sheet();
    }
  }

  // ---- memories

  public int memory(int km, int whose, int ld) {
    if (!isKindAndNumber(km) || !isWithin(whose, 1, 15) || !isWithin(ld, 0, 9999)) {
      return refuse(BEYOND);
    }
    if (tower.isFull()) {
      return refuse(FULL);
    }
    return tower.add(km, whose, ld);
  }

  public int memoryIs(int memory, int what) {
    Memory one = tower.at(memory);
    if (one == null) {
      return refuse(BEYOND);
    }
    switch (what) {
      case 0: return one.kind;
      case 1: return one.number;
      case 2: return one.whose;
      case 3: return one.left;
      case 4: return one.dear;
      case 5: return tower.light(one);
      case 6: return one.smoke(tower.weather);
      default: return refuse(BEYOND);
    }
  }

  public int become(int memory, int km) {
    Memory one = tower.at(memory);
    if (one == null || !isKindAndNumber(km)) {
      return refuse(BEYOND);
    }
    int before = one.kind;
    one.kind = km / 10;
    one.number = km % 10;
    return before;
  }

  public int as(int memory, int kind) {
    Memory one = tower.at(memory);
    if (one == null || !isWithin(kind, EVENING, FARM)) {
      return refuse(BEYOND);
    }
    if (!one.isOf(kind)) {
      return refuse(UNLIKE);
    }
    return one.number;
  }

  public int fills(int memory, int left) {
    Memory one = tower.at(memory);
    if (one == null || !isWithin(left, 0, 99)) {
      return refuse(BEYOND);
    }
    int before = one.left;
    one.left = left;
    return before;
  }

  public int dear(int memory, int dear) {
    Memory one = tower.at(memory);
    if (one == null || !isWithin(dear, 0, 99)) {
      return refuse(BEYOND);
    }
    int before = one.dear;
    one.dear = dear;
    return before;
  }

  public int trim(int memory, int keeper) {
    Memory one = tower.at(memory);
    if (one == null || !isKeeper(keeper)) {
      return refuse(BEYOND);
    }
    int his = 1 << keeper;
    if (one.whose == his) {
      return refuse(STATE);
    }
    int before = (one.whose & his) != 0 ? 1 : 0;
    one.whose &= ~his;
    return before;
  }

  public int tells(int memory, int keeper) {
    Memory one = tower.at(memory);
    if (one == null || !isKeeper(keeper)) {
      return refuse(BEYOND);
    }
    int his = 1 << keeper;
    int before = (one.whose & his) != 0 ? 1 : 0;
    one.whose |= his;
    return before;
  }

  public int blows(int v) {
    if (!isWithin(v, 0, 9)) {
      return refuse(BEYOND);
    }
    int before = tower.weather;
    tower.weather = v;
    return before;
  }

  // ---- texts

  public int feed(long word, int n) {
    if (!isWithin(n, 1, 8)) {
      return refuse(BEYOND);
    }
    if (tape.size() + n > MOST_BYTES) {
      return refuse(FULL);
    }
    for (int i = 0; i < n; i++) {
      tape.add((int) (word >>> (8 * i)) & 255);
    }
    return tape.size();
  }

  public int text(int use) {
    Text inPlace = tower.textOf(use);
    if (inPlace == null) {
      return refuse(BEYOND);
    }
    int fault = reader.read(tape, use);
    tape.clear();
    if (fault != NOTHING) {
      return -10 - fault;
    }
    inPlace.copyFrom(reader.draft);
    return 1;
  }

  public int untell(int use) {
    Text inPlace = tower.textOf(use);
    if (inPlace == null) {
      return refuse(BEYOND);
    }
    int before = inPlace.codes.size() > 0 ? 1 : 0;
    inPlace.clear();
    return before;
  }

  public int law(int use, int a, int b, int c) {
    Text inPlace = tower.textOf(use);
    if (inPlace == null) {
      return refuse(BEYOND);
    }
    return inPlace.gives(a, b, c);
  }

  // ---- nights

  public int nights(int n) {
    if (!isWithin(n, 1, 60)) {
      return refuse(BEYOND);
    }
    if (tower.night + n > LAST_NIGHT) {
      return refuse(STATE);
    }
    int lit = 0;
    for (int i = 0; i < n; i++) {
      if (tower.passNight(choice, NOTHING)) {
        lit++;
      }
    }
    return lit;
  }

  public int loose(int n) {
    if (!isWithin(n, 1, 30)) {
      return refuse(BEYOND);
    }
    if (tower.night + n > LAST_NIGHT) {
      return refuse(STATE);
    }
    int lit = 0;
    for (int i = 0; i < n; i++) {
      tower.drawTheDay();
      if (tower.passNight(choice, NOTHING)) {
        lit++;
      }
    }
    return lit;
  }

  public int seed(int v) {
    int before = tower.z;
    tower.z = v;
    return before;
  }

  // ---- what is, what would be

  public int tonight(int what) {
    if (!isWithin(what, 0, 3)) {
      return refuse(BEYOND);
    }
    if (what == 3) {
      return tower.wanted();
    }
    if (!choice.find(tower, NOTHING)) {
      return refuse(NONE);
    }
    switch (what) {
      case 0: return choice.foundSet();
      case 1: return choice.foundDear();
      default: return choice.foundGives();
    }
  }

  public int lasts() {
    return litNightsAhead(NOTHING);
  }

  public int without(int memory) {
    if (tower.at(memory) == null) {
      return refuse(BEYOND);
    }
    return litNightsAhead(NOTHING) - litNightsAhead(memory);
  }

  public int then(int memory, int n) {
    if (tower.at(memory) == null || !isWithin(n, 0, NIGHTS_AHEAD)) {
      return refuse(BEYOND);
    }
    thought.copyFrom(tower);
    for (int i = 0; i < n; i++) {
      thought.passNight(choice, NOTHING);
    }
    Memory one = thought.at(memory);
    return one == null ? 0 : one.left;
  }

  public int has(int keeper) {
    if (!isKeeper(keeper)) {
      return refuse(BEYOND);
    }
    int all = 0;
    for (int i = 0; i < tower.count; i++) {
      Memory one = tower.at(i);
      if (one != null && (one.whose & 1 << keeper) != 0) {
        int keepers = Integer.bitCount(one.whose);
        all += keepers == 0 ? 0 : one.left * tower.light(one) / keepers;
      }
    }
    return all;
  }

  public int mixes(int memory, int what) {
    if (tower.at(memory) == null || !isWithin(what, 0, 1)) {
      return refuse(BEYOND);
    }
    thought.copyFrom(tower);
    Memory one = thought.at(memory);
    int best = 0;
    int most = 0;
    for (int whose = 1; whose <= 15 && one != null; whose++) {
      one.whose = whose;
      int gives = thought.gives(one);
      if (best == 0 || gives > most) {
        best = whose;
        most = gives;
      }
    }
    return what == 0 ? best : most;
  }

  public int odds(int part) {
    if (!isWithin(part, 0, 1)) {
      return refuse(BEYOND);
    }
    thought.copyFrom(tower);
    int lit = 0;
    for (int weather = 0; weather <= 9; weather++) {
      thought.weather = weather;
      if (choice.find(thought, NOTHING)) {
        lit++;
      }
    }
    return part == 0 ? inLowestTerms(lit, 10) : inLowestTerms(10, lit);
  }

  public int fits(int sheet) {
    Sheet told = sheetAt(sheet);
    if (told == null) {
      return refuse(BEYOND);
    }
    if (told.isMissing()) {
      return refuse(NONE);
    }
    thought.copyFrom(tower);
    for (int n = 0; n <= NIGHTS_AHEAD; n++) {
      if (tellsWhatIsLeft(told, thought)) {
        return n;
      }
      thought.passNight(choice, NOTHING);
    }
    return refuse(NONE);
  }

  // ---- voices, sheets, images, what is told

  public int voice(int memory, int voice, int x) {
    Memory one = tower.at(memory);
    if (one == null || !isWithin(voice, 0, 3)) {
      return refuse(BEYOND);
    }
    int answer = voices.speak(one, memory, voice, x);
    return voices.parted ? refuse(PARTED) : answer;
  }

  public int body(int i) {
    return voices.trace.has(i) ? voices.trace.at(i) : refuse(NONE);
  }

  public int sheet(int sheet, int bits, int n) {
    Sheet one = sheetAt(sheet);
    if (one == null || bits != 0 && bits != 8 && bits != 16 && bits != 32) {
      return refuse(BEYOND);
    }
    if (bits != 0 && n < 0) {
      return refuse(STATE);
    }
    if (bits != 0 && n > MOST_NUMBERS) {
      return refuse(BEYOND);
    }
    one.remake(bits, bits == 0 ? 0 : n);
    return 1;
  }

  public int put(int sheet, int i, int v) {
    Sheet one = sheetAt(sheet);
    if (one == null) {
      return refuse(BEYOND);
    }
    if (one.isMissing()) {
      return refuse(NONE);
    }
    if (!one.has(i)) {
      return refuse(BEYOND);
    }
    one.write(i, v);
    return 1;
  }

  public int move(int sheet, int i, int other, int j, int n) {
    Sheet from = sheetAt(sheet);
    Sheet to = sheetAt(other);
    if (from == null || to == null) {
      return refuse(BEYOND);
    }
    if (from.isMissing() || to.isMissing()) {
      return refuse(NONE);
    }
    if (from.bits != to.bits) {
      return refuse(UNLIKE);
    }
    if (!from.hasRun(i, n) || !to.hasRun(j, n)) {
      return refuse(BEYOND);
    }
    to.take(from, i, j, n);
    return n;
  }

  public int dears(int sheet) {
    Sheet one = sheetAt(sheet);
    if (one == null) {
      return refuse(BEYOND);
    }
    if (one.isMissing()) {
      return refuse(NONE);
    }
    int place = 0;
    while (place < MOST_NUMBERS && one.has(place)) {
      Memory next = tower.at(place);
      if (next == null || !isWithin(one.at(place), 0, 99)) {
        break;
      }
      next.dear = one.at(place);
      place++;
    }
    return place;
  }

  public int judge(int sheet) {
    Sheet one = sheetAt(sheet);
    if (one == null) {
      return refuse(BEYOND);
    }
    if (one.isMissing()) {
      return refuse(NONE);
    }
    int right = 0;
    while (right < MOST_NUMBERS && one.has(right)) {
      Memory next = tower.at(right);
      if (next == null || one.at(right) != tower.light(next)) {
        break;
      }
      right++;
    }
    return right;
  }

  public int image() {
    keptTower.copyFrom(tower);
    keptTape.copyFrom(tape);
    keptWaiting.copyFrom(waiting);
    images++;
    return images;
  }

  public int restore() {
    if (images == 0) {
      return refuse(NONE);
    }
    tower.copyFrom(keptTower);
    tape.copyFrom(keptTape);
    waiting.copyFrom(keptWaiting);
    return tower.night;
  }

  public int tell(int v) {
    if (!waiting.add(v)) {
      return refuse(FULL);
    }
    return waiting.size();
  }

  public int check() {
    int answer = 0;
    for (int i = 0; i < waiting.size() && answer == 0; i++) {
      Memory one = tower.at(i);
      if (one == null || one.left != waiting.at(i)) {
        answer = 1 + i;
      }
    }
    waiting.clear();
    return answer;
  }

  public int count(int what) {
    switch (what) {
      case 0: return tower.count;
      case 1: return tower.weather;
      case 2: return tower.night;
      case 3: return tower.dark;
      case 4: return tape.size();
      case 5: return waiting.size();
      case 6: return voices.trace.size();
      case 7: return tower.z;
      default: return refuse(BEYOND);
    }
  }

  public int told(int k) {
    return isWithin(k, BEYOND, PARTED) ? refusals[k] : refuse(BEYOND);
  }

  // ---- what the calls share

  /** Counts an ERROR and tells its answer: answers that only look like one are not counted. */
  private int refuse(int error) {
    if (error >= 0 && error < refusals.length) {
      refusals[error]++;
    }
    return LOW - error;
  }

  private Sheet sheetAt(int i) {
    return i >= 0 && i < sheets.length ? sheets[i] : null;
  }

  /** How many nights ahead are lit in a row, with one memory that is never burnt, or NOTHING. */
  private int litNightsAhead(int spared) {
    thought.copyFrom(tower);
    int lit = 0;
    while (lit < NIGHTS_AHEAD && thought.passNight(choice, spared)) {
      lit++;
    }
    return lit;
  }

  private static boolean tellsWhatIsLeft(Sheet sheet, Tower tower) {
    for (int i = 0; i < MOST_NUMBERS && sheet.has(i); i++) {
      Memory one = tower.at(i);
      if (one == null || one.left != sheet.at(i)) {
        return false;
      }
    }
    return true;
  }

  /** One side of a fraction of numbers up to 10, by the greatest number that divides both sides. */
  private static int inLowestTerms(int side, int otherSide) {
    for (int d = 10; d > 1; d--) {
      if (side % d == 0 && otherSide % d == 0) {
        return side / d;
      }
    }
    return side;
  }

  private static boolean isWithin(int v, int least, int most) {
    return v >= least && v <= most;
  }

  private static boolean isKeeper(int v) {
    return v >= 0 && v < KEEPERS;
  }

  private static boolean isKindAndNumber(int km) {
    return km >= 0 && km <= 10 * FARM + 9;
  }

  /** What was seen, and is burnt. */
  private static final class Memory {
    int kind;
    int number;
    int whose;
    int left;
    int dear;

    void copyFrom(Memory other) {
      kind = other.kind;
      number = other.number;
      whose = other.whose;
      left = other.left;
      dear = other.dear;
    }

    boolean isOf(int sought) {
      int above = kind;
      for (int i = 0; i < KIND_ABOVE.length; i++) {
        if (above == sought) {
          return true;
        }
        above = above >= 0 && above < KIND_ABOVE.length ? KIND_ABOVE[above] : NOTHING;
      }
      return false;
    }

    int burns(int night) {
      int evening = 10 + number;
      switch (kind) {
        case DANCE: return evening + 5;
        case BOYHOOD: return 2 * evening;
        case SORROW: return evening / 2;
        case REGATTA: return evening + 5 + 10 * (Integer.bitCount(whose) - 1);
        case MOTHER: return 2 * evening + night % 5;
        case FARM: return 4 + left / 10;
        default: return evening;
      }
    }

    int smoke(int weather) {
      int keepers = Integer.bitCount(whose);
      int evening = weather / 3;
      int dance = keepers >= 3 ? evening + 3 : evening;
      switch (kind) {
        case DANCE: return dance;
        case BOYHOOD: return 0;
        case SORROW: return evening + number + 2;
        case REGATTA: return dance + keepers;
        case MOTHER: return weather;
        case FARM: return 0;
        default: return evening;
      }
    }
  }

  /** The memories, the laws that they burn by, and what goes on as nights go by. */
  private static final class Tower {
    final Memory[] memories = new Memory[MOST_MEMORIES];
    final Text lightText = new Text(LIGHT);
    final Text wantedText = new Text(WANTED);
    int count = 0;
    int weather = 0;
    int night = 0;
    int dark = 0;
    int z = 1;

    Tower() {
      for (int i = 0; i < memories.length; i++) {
        memories[i] = new Memory();
      }
    }

    void copyFrom(Tower other) {
      for (int i = 0; i < memories.length && i < other.memories.length; i++) {
        Memory one = memories[i];
        Memory like = other.memories[i];
        if (one != null && like != null) {
          one.copyFrom(like);
        }
      }
      lightText.copyFrom(other.lightText);
      wantedText.copyFrom(other.wantedText);
      count = other.count;
      weather = other.weather;
      night = other.night;
      dark = other.dark;
      z = other.z;
    }

    boolean isFull() {
      return count >= memories.length;
    }

    /** The memory of that number; null if there is none. */
    Memory at(int i) {
      return i >= 0 && i < count && i < memories.length ? memories[i] : null;
    }

    Text textOf(int use) {
      switch (use) {
        case LIGHT: return lightText;
        case WANTED: return wantedText;
        default: return null;
      }
    }

    int add(int km, int whose, int ld) {
      int place = count;
      if (!isFull()) {
        count++;
      }
      Memory one = at(place);
      if (one != null) {
        one.kind = km / 10;
        one.number = km % 10;
        one.whose = whose;
        one.left = ld / 100;
        one.dear = ld % 100;
      }
      return place;
    }

    int light(Memory one) {
      return lightText.gives(one.burns(night), Integer.bitCount(one.whose), night % 7);
    }

    int gives(Memory one) {
      return light(one) - one.smoke(weather);
    }

    int wanted() {
      return wantedText.gives(weather, night % 7, keepersWithOil());
    }

    int keepersWithOil() {
      int keepers = 0;
      for (int i = 0; i < count; i++) {
        Memory one = at(i);
        if (one != null && one.left > 0) {
          keepers |= one.whose;
        }
      }
      return Integer.bitCount(keepers);
    }

    /** One night goes by, and the spared memory (or NOTHING) isn't burnt: whether it was lit. */
    boolean passNight(Choice choice, int spared) {
      boolean lit = choice.find(this, spared);
      if (lit) {
        burn(choice.foundSet());
      } else {
        dark = Math.min(LAST_NIGHT, dark + 1);
      }
      night++;
      return lit;
    }

    void burn(int set) {
      for (int i = 0; i < count; i++) {
        Memory one = at(i);
        if (one != null && (set & 1 << i) != 0) {
          one.left--;
        }
      }
    }

    /** What the draws bring ahead of a night: weather, and now and then some more of a memory. */
    void drawTheDay() {
      weather = draw() % 10;
      if (count > 0 && draw() % 8 == 0) {
        Memory one = at(draw() % count);
        int more = draw() % 5;
        if (one != null) {
          one.left = Math.min(99, one.left + more);
        }
      }
    }

    int draw() {
      z = z * 1103515245 + 12345;
      return z >>> 8;
    }
  }

  /** Finds what to burn; its rows stand for all sets of what can be burnt, the least bits first. */
  private static final class Choice {
    final int[] bits = new int[1 << MOST_MEMORIES];
    final int[] gives = new int[1 << MOST_MEMORIES];
    final int[] dears = new int[1 << MOST_MEMORIES];
    int sets = 1;
    int best = NOTHING;

    /** Whether there is a set that gives enough; what is found is the least dear one of these. */
    boolean find(Tower tower, int spared) {
      sets = 1;
      for (int i = 0; i < tower.count; i++) {
        Memory one = tower.at(i);
        if (one != null && one.left > 0 && i != spared) {
          joinToEach(1 << i, tower.gives(one), one.dear);
        }
      }
      takeLeastDear(tower.wanted());
      return best != NOTHING;
    }

    /** Behind the sets so far come the same sets with one memory more: so bits stay in order. */
    void joinToEach(int bit, int itGives, int itsDear) {
      if (sets * 2 > bits.length) {
        return;
      }
      for (int s = 0; s < sets; s++) {
        bits[sets + s] = bits[s] | bit;
        gives[sets + s] = gives[s] + itGives;
        dears[sets + s] = dears[s] + itsDear;
      }
      sets *= 2;
    }

    void takeLeastDear(int wanted) {
      best = NOTHING;
      int least = 0;
      for (int s = 0; s < sets && s < bits.length; s++) {
        if (gives[s] >= wanted && (best == NOTHING || dears[s] < least)) {
          best = s;
          least = dears[s];
        }
      }
    }

    int foundSet() {
      return best >= 0 && best < bits.length ? bits[best] : 0;
    }

    int foundDear() {
      return best >= 0 && best < dears.length ? dears[best] : 0;
    }

    int foundGives() {
      return best >= 0 && best < gives.length ? gives[best] : 0;
    }
  }

  /**
   * The law of a use, with its operands ahead of their signs: numbers as they are, the names -1, -2
   * and -3, signs as less than 0 by their byte.
   */
  private static final class Text {
    final int use;
    final Row codes = new Row(MOST_BYTES);
    final int[] stack = new int[MOST_BYTES];

    Text(int use) {
      this.use = use;
    }

    void clear() {
      codes.clear();
    }

    void copyFrom(Text other) {
      codes.copyFrom(other.codes);
    }

    int gives(int a, int b, int c) {
      if (codes.size() == 0) {
        return held(use == LIGHT ? a : 5 + 3 * a);
      }
      int top = 0;
      for (int i = 0; i < codes.size(); i++) {
        int code = codes.at(i);
        if (code >= -3 && top < stack.length) {
          stack[top] = code >= 0 ? code : code == -1 ? a : code == -2 ? b : c;
          top++;
        } else if (code == -'!' && top >= 1 && top <= stack.length) {
          stack[top - 1] = stack[top - 1] == 0 ? 1 : 0;
        } else if (top >= 2 && top <= stack.length) {
          top--;
          stack[top - 1] = joined(-code, stack[top - 1], stack[top]);
        }
      }
      return held(stack.length > 0 ? stack[0] : 0);
    }

    int held(int v) {
      int most = use == LIGHT ? 99 : 199;
      return v < 0 ? 0 : v > most ? most : v;
    }

    static int joined(int sign, int a, int b) {
      switch (sign) {
        case '|': return a != 0 || b != 0 ? 1 : 0;
        case '&': return a != 0 && b != 0 ? 1 : 0;
        case '<': return a < b ? 1 : 0;
        case '=': return a == b ? 1 : 0;
        case '>': return a > b ? 1 : 0;
        case '+': return a + b;
        case '-': return a - b;
        case '*': return a * b;
        case '/': return b == 0 ? 0 : a / b;
        case '%': return b == 0 ? 0 : a % b;
        default: return 0;
      }
    }
  }

  /** Reads a text from the tape into a draft, and stops at the first byte that no text goes on with. */
  private static final class Reader {
    static final int FIRST_LEVEL = 0;
    static final int COMPARISON = 2;
    static final int LAST_LEVEL = 4;

    final Text draft = new Text(LIGHT);
    final Row bytes = new Row(MOST_BYTES);
    int use = LIGHT;
    int place = 0;

    /** The place of the fault; NOTHING if the draft stands. */
    int read(Row tape, int ofUse) {
      draft.clear();
      bytes.copyFrom(tape);
      use = ofUse;
      place = 0;
      boolean stands = readChain(FIRST_LEVEL, 0) && place == bytes.size();
      return stands ? NOTHING : place;
    }

    /** Reads what signs of one level join; levels beyond the last are units. */
    private boolean readChain(int level, int open) {
      if (level > LAST_LEVEL) {
        return readUnit(open);
      }
      if (!readChain(level + 1, open)) {
        return false;
      }
      int mostSigns = level == COMPARISON ? 1 : MOST_BYTES;
      for (int i = 0; i < mostSigns && levelOf(next()) == level; i++) {
        int sign = next();
        place++;
        if (!readChain(level + 1, open)) {
          return false;
        }
        draft.codes.add(-sign);
      }
      return true;
    }

    private boolean readUnit(int open) {
      int first = next();
      if (isDigit(first)) {
        readNumber();
        return true;
      }
      int name = nameOf(first);
      if (name != 0) {
        place++;
        draft.codes.add(-name);
        return true;
      }
      if (first != '!' && first != '(' || open >= MOST_OPEN) {
        return false;
      }
      place++;
      return first == '!' ? readNot(open + 1) : readBracketed(open + 1);
    }

    private boolean readNot(int open) {
      if (!readUnit(open)) {
        return false;
      }
      draft.codes.add(-'!');
      return true;
    }

    private boolean readBracketed(int open) {
      if (!readChain(FIRST_LEVEL, open) || next() != ')') {
        return false;
      }
      place++;
      return true;
    }

    private void readNumber() {
      int number = 0;
      for (int i = 0; i < 4 && isDigit(next()); i++) {
        number = number * 10 + next() - '0';
        place++;
      }
      draft.codes.add(number);
    }

    /** The byte at the place; NOTHING at the end. */
    int next() {
      return bytes.has(place) ? bytes.at(place) : NOTHING;
    }

    /** 1, 2 or 3 for the names of the use in order; 0 for any other byte. */
    int nameOf(int sign) {
      switch (sign) {
        case 'l': return use == LIGHT ? 1 : 0;
        case 'o': return use == LIGHT ? 2 : 0;
        case 'n': return use == LIGHT ? 3 : 0;
        case 'w': return use == WANTED ? 1 : 0;
        case 'd': return use == WANTED ? 2 : 0;
        case 'k': return use == WANTED ? 3 : 0;
        default: return 0;
      }
    }

    static int levelOf(int sign) {
      switch (sign) {
        case '|': return FIRST_LEVEL;
        case '&': return 1;
        case '<': case '=': case '>': return COMPARISON;
        case '+': case '-': return 3;
        case '*': case '/': case '%': return LAST_LEVEL;
        default: return NOTHING;
      }
    }

    static boolean isDigit(int sign) {
      return sign >= '0' && sign <= '9';
    }
  }

  /**
   * The voices of one memory. What a body asks of the kind above is worked out in place, with the
   * bodies noted from the kind's own upwards, as they begin.
   */
  private static final class Voices {
    final Row trace = new Row(MOST_BODIES);
    int kind = EVENING;
    int m = 0;
    int k = 0;
    boolean parted = false;

    int speak(Memory one, int itsPlace, int voice, int x) {
      trace.clear();
      kind = one.kind;
      m = one.number;
      k = itsPlace;
      parted = false;
      switch (voice) {
        case 0: return glow(x);
        case 1: return turn(x);
        case 2: return gutter(x);
        default: return part(x);
      }
    }

    int glow(int x) {
      switch (kind) {
        case DANCE:
          trace.add(20);
          trace.add(10);
          return x + k - 4;
        case REGATTA:
          trace.add(50);
          trace.add(20);
          trace.add(10);
          return (x + k - 4) * 3;
        case FARM:
          trace.add(70);
          return 9;
        default:
          trace.add(10);
          return x + k;
      }
    }

    int turn(int x) {
      switch (kind) {
        case BOYHOOD:
          trace.add(30);
          return 0 - turnAsEvening(x);
        case MOTHER:
          trace.add(60);
          trace.add(30);
          return 0 - turnAsEvening(x + 1);
        case FARM:
          trace.add(71);
          return turnAsEvening(x) + m;
        default:
          return turnAsEvening(x);
      }
    }

    int turnAsEvening(int x) {
      trace.add(11);
      return glow(x) * 2;
    }

    int gutter(int x) {
      switch (kind) {
        case SORROW:
          trace.add(40);
          return gutterAsEvening(x / 2);
        case REGATTA:
          trace.add(51);
          return gutterAsEvening(x) ^ k;
        default:
          return gutterAsEvening(x);
      }
    }

    int gutterAsEvening(int x) {
      trace.add(12);
      return turn(x) - m;
    }

    int part(int x) {
      boolean danced = kind == DANCE || kind == REGATTA;
      if (danced) {
        trace.add(21);
      }
      trace.add(13);
      if (m - k == 0) {
        parted = true;
        return 0;
      }
      int evening = x / (m - k);
      return danced ? evening + turn(1) : evening;
    }
  }

  /** Some numbers in a row, up to a limit. */
  private static final class Row {
    final int[] values;
    int filled = 0;

    Row(int limit) {
      values = new int[limit > 0 ? limit : 0];
    }

    int size() {
      return filled;
    }

    boolean has(int i) {
      return i >= 0 && i < filled && i < values.length;
    }

    int at(int i) {
      return i >= 0 && i < filled && i < values.length ? values[i] : 0;
    }

    /** Whether there was room for it. */
    boolean add(int v) {
      if (filled < 0 || filled >= values.length) {
        return false;
      }
      values[filled] = v;
      filled++;
      return true;
    }

    void clear() {
      filled = 0;
    }

    void copyFrom(Row other) {
      filled = 0;
      for (int i = 0; i < other.filled && i < values.length; i++) {
        add(other.at(i));
      }
    }
  }

  /** A row of numbers of so many bits; of 0 bits while it is missing. */
  private static final class Sheet {
    final int[] numbers = new int[MOST_NUMBERS];
    int bits = 0;
    int size = 0;

    boolean isMissing() {
      return bits == 0;
    }

    void remake(int newBits, int newSize) {
      bits = newBits;
      size = newSize;
      for (int i = 0; i < numbers.length; i++) {
        numbers[i] = 0;
      }
    }

    boolean has(int i) {
      return i >= 0 && i < size && i < numbers.length;
    }

    /** Whether n numbers stand from number i on; i + n could wrap, so it isn't asked. */
    boolean hasRun(int i, int n) {
      return i >= 0 && n >= 0 && i <= size && n <= size - i;
    }

    int at(int i) {
      return has(i) ? numbers[i] : 0;
    }

    void write(int i, int v) {
      if (has(i)) {
        numbers[i] = bits == 8 ? (byte) v : bits == 16 ? (short) v : v;
      }
    }

    /** Numbers are taken in the order in which none is written over ahead of its being read. */
    void take(Sheet from, int i, int j, int n) {
      for (int step = 0; step < n && step < MOST_NUMBERS; step++) {
        int next = i >= j ? step : n - 1 - step;
        write(j + next, from.at(i + next));
      }
    }
  }
}
