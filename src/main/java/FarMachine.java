/**
 * A machine nine hours away that runs a program from its own words, and what earth knows of it.
 * What each call promises stands in ../shared/DOC.md; the names in capitals are the document's.
 */
public final class FarMachine {
  private static final int NOBODY = -1;
  private static final int OTHER = -2;
  private static final int WRONG_STATE = -3;
  private static final int BELOW = -4;
  private static final int ROOM = -6;
  private static final int NONE = -9;
  private static final int FAULT = -20;
  private static final int REFUSAL_KINDS = 6;
  private static final int FAR_REFUSAL = 1000;

  private static final int WORDS = 48;
  private static final int MOST_IN_WORD = 255;
  private static final int BOXES = 8;
  private static final int LEAST_NUMBER = -128;
  private static final int MOST_NUMBER = 127;
  private static final int MOST_HEAT = 99;
  private static final int MOST_DISH = 20;
  private static final int DISH_WIDTH = 2;
  private static final int LAST_HOUR = 2000;
  private static final int HOURS_OF_DAY = 24;
  private static final int COOLING = 2;
  private static final int SILENT_PLACE = 40;
  private static final int MOST_FELT = 31;
  private static final int TURNS = 32;
  private static final int MIDDLE_TURN = 16;
  /** Outside of all bytes that can be SENT. */
  private static final int NOTHING_SENT = 1000;

  private static final int TALKING = 1;
  private static final int FEELING = 2;
  private static final int LYING = 3;
  private static final int WARMING = 4;
  private static final int TURNING = 5;
  private static final int SPARE = 6;
  private static final int KINDS = 8;
  private static final int[] POWER_OF = {1, 4, 2, 2, 3, 5, 2, 0};
  private static final int[] WARMTH_OF = {0, 0, 0, 0, 3, 0, 1, 0};
  private static final int LIE = 5;

  private static final int PLACE = 0;
  private static final int NUMBER = 1;
  private static final int HEAT = 2;
  private static final int FUEL = 3;
  private static final int DISH = 4;
  private static final int REST = 5;
  private static final int COLD = 6;
  private static final int DRIFT = 7;
  private static final int SILENCE = 8;
  private static final int DELAY = 9;
  private static final int[] LEAST_TOLD = {0, -128, 0, 0, -20, 0, 0, 1, 1, 0};
  private static final int[] MOST_TOLD = {47, 127, 99, 99, 20, 31, 99, 99, 999, 20};

  private static final int NEW_WORD = 0;
  private static final int NEW_PLACE = 1;
  private static final int NOTHING_ELSE = 2;
  private static final int MOST_UNDER_WAY = 30;
  private static final int MOST_ASKS = 6;
  private static final int MOST_SENT = 60;

  private static final int MOST_SUSPECTS = 8;
  private static final int MOST_STATES = 256;
  private static final int MOST_BIT = 7;
  private static final int MOST_TRIED = 60;
  private static final int MOST_ON_ROW = 40;

  private static final int MOST_ON_TAPE = 30;
  private static final int MOST_FED = 8;
  private static final int MOST_RULES = 10;
  /** A TEST has three bytes at least, and a "&" between two of them. */
  private static final int MOST_TESTS = 7;
  private static final int MOST_DIGITS = 3;
  private static final String LETTERS = "hfdaptwo";
  private static final int LETTER_COUNT = 8;
  /** A UNIT is one int: a letter by its number and this, which is above every NUMBER. */
  private static final int FIRST_LETTER = 1000;

  private static final int MOST_HOLES = 8;
  private static final int MOST_PROGRAM = 40;
  private static final int MOST_POWER = 99;
  private static final int MOST_WARM_HOURS = 200;

  private final World world = new World();
  private final World image = new World();
  private boolean imageTaken;
  private final Bytes row = new Bytes(MOST_ON_ROW);
  private final Bytes tape = new Bytes(MOST_ON_TAPE);
  private final Trials trials = new Trials(world, row);
  private final int[] readings = new int[LETTER_COUNT];
  private final int[] refusals = new int[REFUSAL_KINDS + 1];

  /** Promise 1. */
  public FarMachine() {
  }

  /** Promise 2. */
  public int word(int at, int v) {
    if (!isWord(at)) {
      return refuse(NOBODY);
    }
    if (v < 0) {
      return refuse(BELOW);
    }
    if (v > MOST_IN_WORD) {
      return refuse(ROOM);
    }
    int was = world.machine.readWord(at);
    world.machine.writeWord(at, v);
    return was;
  }

  /** Promise 3. */
  public int wordOf(int at) {
    return isWord(at) ? world.machine.readWord(at) : refuse(NOBODY);
  }

  /** Promise 4. */
  public int box(int box, int kind, boolean on) {
    if (box < 0 || box >= BOXES) {
      return refuse(NOBODY);
    }
    if (kind < 0 || kind >= KINDS) {
      return refuse(OTHER);
    }
    int was = world.machine.kinds[box];
    world.machine.kinds[box] = kind;
    world.machine.switchBox(box, on);
    return was;
  }

  /** Promise 5. */
  public int set(int what, int v) {
    if (what < 0 || what >= LEAST_TOLD.length || what >= MOST_TOLD.length) {
      return refuse(OTHER);
    }
    if (v < LEAST_TOLD[what]) {
      return refuse(BELOW);
    }
    if (v > MOST_TOLD[what]) {
      return refuse(ROOM);
    }
    world.machine.tell(what, v);
    return 1;
  }

  /** Promise 6. */
  public int state(int what) {
    Machine machine = world.machine;
    switch (what) {
      case 0: return machine.place;
      case 1: return machine.number;
      case 2: return machine.heat;
      case 3: return machine.fuel;
      case 4: return machine.dish;
      case 5: return machine.rest;
      case 6: return machine.hour;
      case 7: return machine.sumOn(POWER_OF);
      case 8: return machine.onBits;
      case 9: return machine.silentHours;
      default: return refuseFar(OTHER);
    }
  }

  /** Promise 7. */
  public int felt(int n) {
    if (n < 0) {
      return refuseFar(BELOW);
    }
    return n > MOST_FELT ? refuseFar(ROOM) : world.machine.feel(n);
  }

  /** Promise 8. */
  public int hours(int n) {
    if (n < 1) {
      return refuse(BELOW);
    }
    if (n > LAST_HOUR) {
      return refuse(ROOM);
    }
    for (int i = 0; i < n; i++) {
      world.passHour();
    }
    return world.machine.hour;
  }

  /** Promise 9. */
  public int command(int kind, int where, int v) {
    Commands underWay = world.machine.underWay;
    int refusal = refusalOfCommand(kind, where, v, underWay.isFull());
    if (refusal != 0) {
      return refuse(refusal);
    }
    underWay.add(kind, where, v, world.machine.delay);
    return underWay.count;
  }

  /** Promise 10. */
  public int sent() {
    return world.sentBytes.count;
  }

  /** Promise 11. */
  public int heard(int i) {
    int at = world.placeOfHeard(i);
    return at < 0 ? refuseFar(NOBODY) : world.sentBytes.at(at);
  }

  /** Promise 12. */
  public int start() {
    world.startMachine.copyFrom(world.machine);
    world.started = true;
    return world.machine.hour;
  }

  /** Promise 13. */
  public int suspect(int word, int bit) {
    if (!isWord(word)) {
      return refuse(NOBODY);
    }
    if (bit < 0) {
      return refuse(BELOW);
    }
    if (bit > MOST_BIT || world.suspectWords.isFull()) {
      return refuse(ROOM);
    }
    if (world.isSuspect(word, bit)) {
      return refuse(WRONG_STATE);
    }
    world.suspectWords.add(word);
    world.suspectBits.add(bit);
    return world.suspectWords.count - 1;
  }

  /** Promise 14. */
  public int put(int v) {
    if (v < LEAST_NUMBER) {
      return refuse(BELOW);
    }
    if (v > MOST_NUMBER || row.isFull()) {
      return refuse(ROOM);
    }
    row.add(v);
    return row.count;
  }

  /** Promise 15. */
  public int unput() {
    int had = row.count;
    row.count = 0;
    return had;
  }

  /** Promise 16. */
  public int fits(int state, int n) {
    int refusal = refusalOfTried(isState(state), n, 1);
    if (refusal != 0) {
      return refuse(refusal);
    }
    return trials.doesFit(state, n) ? 1 : 0;
  }

  /** Promise 17. */
  public int fitting(int n, int what) {
    if (what < 0 || what > 3) {
      return refuse(OTHER);
    }
    int refusal = refusalOfTried(true, n, 1);
    if (refusal != 0) {
      return refuse(refusal);
    }
    trials.survey(n);
    if (what == 0) {
      return trials.fitCount;
    }
    if (trials.fitCount == 0) {
      return NONE;
    }
    if (what == 1) {
      return trials.inAll;
    }
    return what == 2 ? trials.inSome : trials.fewestBits;
  }

  /** Promise 18. */
  public int feed(int n, long bytes) {
    if (n < 1) {
      return refuse(BELOW);
    }
    if (n > MOST_FED || tape.count + n > MOST_ON_TAPE) {
      return refuse(ROOM);
    }
    for (int i = 0; i < n; i++) {
      tape.add((int) (bytes >> (8 * i)) & 255);
    }
    return tape.count;
  }

  /** Promise 19. */
  public int rule() {
    if (world.rules.count >= MOST_RULES) {
      return refuse(ROOM);
    }
    RuleReader reader = new RuleReader(tape, world.rules);
    boolean whole = reader.readRule();
    tape.count = 0;
    return whole ? world.rules.count - 1 : FAULT - reader.at;
  }

  /** Promise 20. */
  public int holds(int rule) {
    if (rule < 0 || rule >= world.rules.count) {
      return refuse(NOBODY);
    }
    world.machine.readInto(readings);
    return world.rules.isTrue(rule, readings) ? 1 : 0;
  }

  /** Promise 21. */
  public int broken(int state, int n) {
    int refusal = refusalOfTried(isState(state), n, 1);
    if (refusal != 0) {
      return refuse(refusal);
    }
    trials.setOut(state);
    return trials.goOn(n);
  }

  /** Promise 22. */
  public int ask(int kind, int where, int v) {
    int refusal = refusalOfCommand(kind, where, v, world.asks.isFull());
    if (refusal != 0) {
      return refuse(refusal);
    }
    world.asks.add(kind, where, v, 0);
    return world.asks.count - 1;
  }

  /** Promise 23. */
  public int safe(int ask, int n, int m) {
    int refusal = refusalOfTried(isAsk(ask), n, m);
    if (refusal != 0) {
      return refuse(refusal);
    }
    trials.judge(ask, n, m);
    if (trials.fitCount == 0) {
      return refuse(WRONG_STATE);
    }
    return trials.unbroken ? 1 : 0;
  }

  /** Promise 24. */
  public int parts(int ask, int n, int m) {
    int refusal = refusalOfTried(isAsk(ask), n, m);
    if (refusal != 0) {
      return refuse(refusal);
    }
    trials.judge(ask, n, m);
    return trials.fitCount == 0 ? refuse(WRONG_STATE) : trials.rows.count;
  }

  /** Promise 25. */
  public int best(int n, int m) {
    int refusal = refusalOfTried(true, n, m);
    if (refusal != 0) {
      return refuse(refusal);
    }
    trials.survey(n);
    if (trials.fitCount == 0) {
      return refuse(WRONG_STATE);
    }
    int best = NONE;
    int mostParts = 0;
    for (int ask = 0; ask < world.asks.count; ask++) {
      trials.judge(ask, n, m);
      if (trials.unbroken && trials.rows.count > mostParts) {
        best = ask;
        mostParts = trials.rows.count;
      }
    }
    return best;
  }

  /** Promise 26. */
  public int hole(int from, int many) {
    if (!isWord(from)) {
      return refuse(NOBODY);
    }
    if (many < 1) {
      return refuse(BELOW);
    }
    if (many > WORDS - from || world.holeSizes.isFull()) {
      return refuse(ROOM);
    }
    world.holeSizes.add(many);
    return world.holeSizes.count;
  }

  /** Promise 27. */
  public int fewest(int k) {
    if (k < 1) {
      return refuse(BELOW);
    }
    return k > MOST_PROGRAM ? refuse(ROOM) : world.fewestHolesFor(k);
  }

  /** Promise 28. */
  public int keep(int power) {
    if (power < 0) {
      return refuse(BELOW);
    }
    return power > MOST_POWER ? refuse(ROOM) : world.machine.leastOffFor(power);
  }

  /** Promise 29. */
  public int warm(int heat) {
    if (heat < 0) {
      return refuse(BELOW);
    }
    return heat > MOST_HEAT ? refuse(ROOM) : world.machine.hoursTillBelow(heat);
  }

  /** Promise 30. */
  public int aim() {
    return world.machine.cheapestTurn();
  }

  /** Promise 31. */
  public int unlike(int i) {
    if (i < -1) {
      return refuse(NOBODY);
    }
    if (!world.started) {
      return refuse(WRONG_STATE);
    }
    int many = 0;
    for (int at = 0; at < WORDS; at++) {
      if (world.machine.readWord(at) != world.startMachine.readWord(at)) {
        if (many == i) {
          return at;
        }
        many++;
      }
    }
    return i == -1 ? many : NONE;
  }

  /** Promise 32. */
  public int image() {
    image.copyFrom(world);
    imageTaken = true;
    return world.machine.hour;
  }

  /** Promise 33. */
  public int on() {
    if (!imageTaken) {
      return refuse(WRONG_STATE);
    }
    world.copyFrom(image);
    return world.machine.hour;
  }

  /** Promise 34. */
  public int count(int what) {
    if (what > 10 && what <= 10 + REFUSAL_KINDS) {
      return refusals[what - 10];
    }
    switch (what) {
      case 0: return world.machine.hour;
      case 1: return world.machine.underWay.count;
      case 2: return world.suspectWords.count;
      case 3: return world.rules.count;
      case 4: return world.asks.count;
      case 5: return world.holeSizes.count;
      case 6: return row.count;
      case 7: return tape.count;
      default: return NONE;
    }
  }

  private int refuse(int refusal) {
    if (refusal < 0 && refusal >= -REFUSAL_KINDS) {
      refusals[-refusal]++;
    }
    return refusal;
  }

  /** For the calls whose own answers may be below 0. */
  private int refuseFar(int refusal) {
    return FAR_REFUSAL - refuse(refusal);
  }

  private static boolean isWord(int at) {
    return at >= 0 && at < WORDS;
  }

  private boolean isState(int state) {
    return state >= 0 && state < world.stateCount();
  }

  private boolean isAsk(int ask) {
    return ask >= 0 && ask < world.asks.count;
  }

  private static int refusalOfCommand(int kind, int where, int v, boolean full) {
    if (kind < NEW_WORD || kind > NOTHING_ELSE) {
      return OTHER;
    }
    if (kind == NEW_WORD && !isWord(where)) {
      return NOBODY;
    }
    if (kind != NOTHING_ELSE && v < 0) {
      return BELOW;
    }
    boolean tooHigh = kind == NEW_WORD && v > MOST_IN_WORD || kind == NEW_PLACE && v >= WORDS;
    return tooHigh || full ? ROOM : 0;
  }

  private int refusalOfTried(boolean known, int n, int m) {
    if (!known) {
      return NOBODY;
    }
    if (n < 1 || m < 1) {
      return BELOW;
    }
    if (n > MOST_TRIED || m > MOST_TRIED) {
      return ROOM;
    }
    return world.started ? 0 : WRONG_STATE;
  }

  private static int held(int least, int v, int most) {
    return Math.max(least, Math.min(v, most));
  }

  private static void copyRow(int[] from, int[] to) {
    System.arraycopy(from, 0, to, 0, Math.min(from.length, to.length));
  }

  /** A row of small numbers with a greatest length. */
  private static final class Bytes {
    private final int[] values;
    int count;

    Bytes(int most) {
      values = new int[Math.max(most, 0)];
    }

    boolean isFull() {
      return count >= values.length;
    }

    /** One that is too many is lost. */
    void add(int v) {
      if (count >= 0 && count < values.length) {
        values[count] = v;
        count++;
      }
    }

    int at(int i) {
      return i >= 0 && i < values.length ? values[i] : 0;
    }

    void copyFrom(Bytes other) {
      copyRow(other.values, values);
      count = other.count;
    }
  }

  /**
   * COMMANDS in the order in which they were sent. Each has the HOURS that still go by ahead of the
   * one in which it comes, not the number of that one: HOUR stays 2000, and yet HOURS go by.
   */
  private static final class Commands {
    private final int[] kinds;
    private final int[] wheres;
    private final int[] values;
    private final int[] hoursLeft;
    int count;

    Commands(int most) {
      int room = Math.max(most, 0);
      kinds = new int[room];
      wheres = new int[room];
      values = new int[room];
      hoursLeft = new int[room];
    }

    boolean isFull() {
      return count >= kinds.length;
    }

    private boolean has(int i) {
      return i >= 0 && i < count && i < kinds.length;
    }

    void add(int kind, int where, int v, int left) {
      if (count >= 0 && count < kinds.length) {
        kinds[count] = kind;
        wheres[count] = where;
        values[count] = v;
        hoursLeft[count] = left;
        count++;
      }
    }

    boolean comesNow(int i) {
      return has(i) && hoursLeft[i] <= 0;
    }

    void doTo(Machine machine, int i) {
      if (has(i) && kinds[i] == NEW_WORD) {
        machine.writeWord(wheres[i], values[i]);
      } else if (has(i) && kinds[i] == NEW_PLACE) {
        machine.goTo(values[i]);
      }
    }

    /**
     * AN HOUR goes by: those that come in it are gone, the others move up (none is written over
     * before it was looked at). Answers how many came.
     */
    int passHour() {
      int all = Math.min(count, kinds.length);
      count = 0;
      for (int i = 0; i < all; i++) {
        if (hoursLeft[i] > 0) {
          add(kinds[i], wheres[i], values[i], hoursLeft[i] - 1);
        }
      }
      return all - count;
    }

    void copyFrom(Commands other) {
      copyRow(other.kinds, kinds);
      copyRow(other.wheres, wheres);
      copyRow(other.values, values);
      copyRow(other.hoursLeft, hoursLeft);
      count = other.count;
    }
  }

  /** THE MACHINE and the COMMANDS under way to it. */
  private static final class Machine {
    final int[] words = new int[WORDS];
    final int[] kinds = new int[BOXES];
    final Commands underWay = new Commands(MOST_UNDER_WAY);
    int onBits;
    int place;
    int number;
    int heat = 50;
    int fuel = 60;
    int dish;
    int rest;
    int cold = 10;
    int drift = 24;
    int silence = 200;
    int delay = 9;
    int hour;
    int silentHours;

    void copyFrom(Machine other) {
      copyRow(other.words, words);
      copyRow(other.kinds, kinds);
      underWay.copyFrom(other.underWay);
      onBits = other.onBits;
      place = other.place;
      number = other.number;
      heat = other.heat;
      fuel = other.fuel;
      dish = other.dish;
      rest = other.rest;
      cold = other.cold;
      drift = other.drift;
      silence = other.silence;
      delay = other.delay;
      hour = other.hour;
      silentHours = other.silentHours;
    }

    int readWord(int at) {
      return isWord(at) ? words[at] : 0;
    }

    void writeWord(int at, int v) {
      if (isWord(at)) {
        words[at] = v;
      }
    }

    void goTo(int newPlace) {
      place = newPlace;
      rest = 0;
    }

    void tell(int what, int v) {
      switch (what) {
        case PLACE: place = v; break;
        case NUMBER: number = v; break;
        case HEAT: heat = v; break;
        case FUEL: fuel = v; break;
        case DISH: dish = v; break;
        case REST: rest = v; break;
        case COLD: cold = v; break;
        case DRIFT: drift = v; break;
        case SILENCE: silence = v; break;
        case DELAY: delay = v; break;
        default: break;
      }
    }

    boolean isOn(int box) {
      return (onBits >> box & 1) == 1;
    }

    void switchBox(int box, boolean on) {
      onBits = on ? onBits | 1 << box : onBits & ~(1 << box);
    }

    boolean hasOn(int kind) {
      for (int box = 0; box < kinds.length; box++) {
        if (isOn(box) && kinds[box] == kind) {
          return true;
        }
      }
      return false;
    }

    /** What all that are ON have together of a table by KINDS. */
    int sumOn(int[] table) {
      return sumOf(table, onBits);
    }

    private int sumOf(int[] table, int boxes) {
      int sum = 0;
      for (int box = 0; box < kinds.length; box++) {
        int kind = kinds[box];
        if ((boxes >> box & 1) == 1 && kind >= 0 && kind < table.length) {
          sum += table[kind];
        }
      }
      return sum;
    }

    private static boolean isAimed(int degrees) {
      return degrees >= -DISH_WIDTH && degrees <= DISH_WIDTH;
    }

    /** AN HOUR goes by; answers the byte that was SENT in it, or NOTHING_SENT. */
    int passHour() {
      boolean came = receive();
      int sentByte = NOTHING_SENT;
      if (rest > 0) {
        rest--;
      } else {
        sentByte = act();
      }
      changeHeat();
      driftDish();
      countSilence(came);
      hour = Math.min(hour + 1, LAST_HOUR);
      return sentByte;
    }

    /** Does what comes in this HOUR; answers whether something did. */
    private boolean receive() {
      for (int i = 0; i < underWay.count; i++) {
        if (underWay.comesNow(i)) {
          underWay.doTo(this, i);
        }
      }
      return underWay.passHour() > 0;
    }

    /** Does the WORD at PLACE; answers the byte that it SENDs, or NOTHING_SENT. */
    private int act() {
      int word = readWord(place);
      int n = word & 31;
      int next = place >= WORDS - 1 ? 0 : place + 1;
      int sentByte = NOTHING_SENT;
      switch (word >> 5) {
        case 0:
          rest = n;
          next = n == 0 ? place : next;
          break;
        case 1:
          number = n;
          break;
        case 2:
          number = held(LEAST_NUMBER, number + n - 16, MOST_NUMBER);
          break;
        case 3:
          switchBox(n & 7, (n & 8) != 0);
          break;
        case 4:
          turnDish(n - MIDDLE_TURN);
          break;
        case 5:
          next = number > 0 ? n : next;
          break;
        case 6:
          number = feel(n);
          break;
        default:
          sentByte = hasOn(TALKING) && isAimed(dish) ? feel(n) : NOTHING_SENT;
          break;
      }
      place = next;
      return sentByte;
    }

    private void turnDish(int degrees) {
      int cost = Math.abs(degrees);
      if (hasOn(TURNING) && fuel >= cost) {
        dish = held(-MOST_DISH, dish + degrees, MOST_DISH);
        fuel -= cost;
      }
    }

    /** FELT by n, of 0 .. 31. */
    int feel(int n) {
      switch (n) {
        case 0: return feelHeat();
        case 1: return fuel;
        case 2: return dish;
        case 3: return hour % HOURS_OF_DAY;
        case 4: return Integer.bitCount(onBits);
        case 5: return number;
        case 6: return place;
        case 7: return sumOn(POWER_OF);
        default: return readWord(16 + n) + LEAST_NUMBER;
      }
    }

    private int feelHeat() {
      for (int box = 0; box < kinds.length; box++) {
        if (isOn(box) && kinds[box] == FEELING) {
          return heat;
        }
        if (isOn(box) && kinds[box] == LYING) {
          return heat + LIE;
        }
      }
      return 0;
    }

    private int heatAfter(int degrees) {
      return held(0, degrees + sumOn(WARMTH_OF) - COOLING, MOST_HEAT);
    }

    private void changeHeat() {
      heat = heatAfter(heat);
      if (heat < cold) {
        for (int box = 0; box < kinds.length; box++) {
          if (kinds[box] != WARMING && kinds[box] != SPARE) {
            switchBox(box, false);
          }
        }
      }
    }

    private void driftDish() {
      if (drift > 0 && hour != 0 && hour % drift == 0) {
        dish = Math.min(dish + 1, MOST_DISH);
      }
    }

    private void countSilence(boolean came) {
      silentHours = came ? 0 : silentHours + 1;
      if (silentHours >= silence) {
        goTo(SILENT_PLACE);
        silentHours = 0;
      }
    }

    /** What the letters of RULES stand for now, in the order of LETTERS. */
    void readInto(int[] readings) {
      if (readings.length >= LETTER_COUNT) {
        readings[0] = heat;
        readings[1] = fuel;
        readings[2] = dish;
        readings[3] = number;
        readings[4] = place;
        readings[5] = hour % HOURS_OF_DAY;
        readings[6] = sumOn(POWER_OF);
        readings[7] = Integer.bitCount(onBits);
      }
    }

    /** KEEP. Sets go up, so the first of the fewest is the least. */
    int leastOffFor(int power) {
      int least = onBits;
      for (int off = 0; off < 1 << BOXES; off++) {
        boolean allOn = (off & ~onBits) == 0;
        if (allOn && Integer.bitCount(off) < Integer.bitCount(least)
            && sumOf(POWER_OF, onBits & ~off) <= power) {
          least = off;
        }
      }
      return least;
    }

    /** WARM. */
    int hoursTillBelow(int degrees) {
      int then = heat;
      for (int i = 0; i <= MOST_WARM_HOURS; i++) {
        if (then < degrees) {
          return i;
        }
        then = heatAfter(then);
      }
      return NONE;
    }

    /** AIM: it asks for FUEL, not for a TURNING box, as the document has it. */
    int cheapestTurn() {
      int best = NONE;
      int leastCost = fuel + 1;
      for (int n = 0; n < TURNS; n++) {
        int cost = Math.abs(n - MIDDLE_TURN);
        int turned = held(-MOST_DISH, dish + n - MIDDLE_TURN, MOST_DISH);
        if (cost < leastCost && isAimed(turned)) {
          best = n;
          leastCost = cost;
        }
      }
      return best;
    }
  }

  /** All that THE IMAGE takes: THE MACHINE, what is under way and what was told of it. */
  private static final class World {
    final Machine machine = new Machine();
    final Machine startMachine = new Machine();
    boolean started;
    final Bytes sentBytes = new Bytes(MOST_SENT);
    final Bytes heardFrom = new Bytes(MOST_SENT);
    final Bytes suspectWords = new Bytes(MOST_SUSPECTS);
    final Bytes suspectBits = new Bytes(MOST_SUSPECTS);
    final Rules rules = new Rules();
    final Commands asks = new Commands(MOST_ASKS);
    /** Where a HOLE lies counts for no answer, so only how many WORDS it has is kept. */
    final Bytes holeSizes = new Bytes(MOST_HOLES);

    void copyFrom(World other) {
      machine.copyFrom(other.machine);
      startMachine.copyFrom(other.startMachine);
      started = other.started;
      sentBytes.copyFrom(other.sentBytes);
      heardFrom.copyFrom(other.heardFrom);
      suspectWords.copyFrom(other.suspectWords);
      suspectBits.copyFrom(other.suspectBits);
      rules.copyFrom(other.rules);
      asks.copyFrom(other.asks);
      holeSizes.copyFrom(other.holeSizes);
    }

    void passHour() {
      int heardAt = machine.hour + machine.delay;
      int sentByte = machine.passHour();
      if (sentByte != NOTHING_SENT) {
        sentBytes.add(sentByte);
        heardFrom.add(heardAt);
      }
    }

    /** Which of the SENT bytes is the i-th that is HEARD now; -1 if there is none such. */
    int placeOfHeard(int i) {
      int heardCount = 0;
      for (int at = 0; at < sentBytes.count; at++) {
        if (heardFrom.at(at) <= machine.hour) {
          if (heardCount == i) {
            return at;
          }
          heardCount++;
        }
      }
      return -1;
    }

    int stateCount() {
      return 1 << suspectWords.count;
    }

    boolean isSuspect(int word, int bit) {
      for (int i = 0; i < suspectWords.count; i++) {
        if (suspectWords.at(i) == word && suspectBits.at(i) == bit) {
          return true;
        }
      }
      return false;
    }

    /** FEWEST. Sets go up, so the first of the fewest is the least. */
    int fewestHolesFor(int k) {
      int best = NONE;
      int fewest = MOST_HOLES + 1;
      for (int holes = 1; holes < 1 << holeSizes.count; holes++) {
        int many = Integer.bitCount(holes);
        if (many < fewest && roomIn(holes) >= k) {
          best = holes;
          fewest = many;
        }
      }
      return best;
    }

    /** Each HOLE but the last loses one WORD to the jump. */
    private int roomIn(int holes) {
      int room = 1 - Integer.bitCount(holes);
      for (int i = 0; i < holeSizes.count; i++) {
        if ((holes >> i & 1) == 1) {
          room += holeSizes.at(i);
        }
      }
      return room;
    }
  }

  /** RULES, each a run of TESTS that must all be true for it to hold. */
  private static final class Rules {
    private final int[] lefts = new int[MOST_RULES * MOST_TESTS];
    private final int[] signs = new int[MOST_RULES * MOST_TESTS];
    private final int[] rights = new int[MOST_RULES * MOST_TESTS];
    private final int[] nots = new int[MOST_RULES * MOST_TESTS];
    private final int[] sizes = new int[MOST_RULES];
    int count;

    void copyFrom(Rules other) {
      copyRow(other.lefts, lefts);
      copyRow(other.signs, signs);
      copyRow(other.rights, rights);
      copyRow(other.nots, nots);
      copyRow(other.sizes, sizes);
      count = other.count;
    }

    private int sizeOf(int rule) {
      return rule >= 0 && rule < sizes.length ? sizes[rule] : 0;
    }

    /** Behind the last RULE a new one is built up; it counts only by finish(). */
    void begin() {
      if (count >= 0 && count < sizes.length) {
        sizes[count] = 0;
      }
    }

    void addTest(int not, int left, int sign, int right) {
      int size = sizeOf(count);
      int at = count * MOST_TESTS + size;
      if (size < MOST_TESTS && count < sizes.length && at >= 0 && at < lefts.length) {
        nots[at] = not;
        lefts[at] = left;
        signs[at] = sign;
        rights[at] = right;
        sizes[count]++;
      }
    }

    void finish() {
      count++;
    }

    boolean isTrue(int rule, int[] readings) {
      int size = sizeOf(rule);
      for (int i = 0; i < size; i++) {
        if (!isTestTrue(rule * MOST_TESTS + i, readings)) {
          return false;
        }
      }
      return true;
    }

    /** The RULE of least number that holds; NONE if none does. */
    int firstTrue(int[] readings) {
      for (int rule = 0; rule < count; rule++) {
        if (isTrue(rule, readings)) {
          return rule;
        }
      }
      return NONE;
    }

    private boolean isTestTrue(int at, int[] readings) {
      if (at < 0 || at >= lefts.length) {
        return false;
      }
      int left = valueOf(lefts[at], readings);
      int right = valueOf(rights[at], readings);
      boolean plain;
      if (signs[at] == '<') {
        plain = left < right;
      } else if (signs[at] == '>') {
        plain = left > right;
      } else {
        plain = left == right;
      }
      return plain != (nots[at] == 1);
    }

    private static int valueOf(int unit, int[] readings) {
      int letter = unit - FIRST_LETTER;
      return letter >= 0 && letter < readings.length ? readings[letter] : unit;
    }
  }

  /** Reads THE TAPE as a RULE, byte for byte; behind a FAULT at is its place. */
  private static final class RuleReader {
    private static final int END = -1;

    private final Bytes text;
    private final Rules rules;
    private boolean faulty;
    int at;

    RuleReader(Bytes text, Rules rules) {
      this.text = text;
      this.rules = rules;
    }

    /** Whether it became a RULE. */
    boolean readRule() {
      rules.begin();
      boolean more = true;
      for (int i = 0; i <= text.count && more && !faulty; i++) {
        readTest();
        more = !faulty && next() != END;
        if (more) {
          take(next() == '&');
        }
      }
      if (!faulty) {
        rules.finish();
      }
      return !faulty;
    }

    private void readTest() {
      int not = 0;
      for (int i = 0; i < text.count && next() == '!'; i++) {
        not = 1 - not;
        at++;
      }
      int left = readUnit();
      int sign = next();
      take(sign == '<' || sign == '=' || sign == '>');
      int right = readUnit();
      if (!faulty) {
        rules.addTest(not, left, sign, right);
      }
    }

    private int readUnit() {
      int letter = LETTERS.indexOf((char) Math.max(next(), 0));
      if (letter >= 0 && !faulty) {
        at++;
        return FIRST_LETTER + letter;
      }
      if (next() != '-' || faulty) {
        return readDigits();
      }
      at++;
      return -readDigits();
    }

    private int readDigits() {
      int number = 0;
      for (int i = 0; i < MOST_DIGITS && (i == 0 || isDigit(next())); i++) {
        int digit = next() - '0';
        take(isDigit(next()));
        number = 10 * number + digit;
      }
      return number;
    }

    private static boolean isDigit(int b) {
      return b >= '0' && b <= '9';
    }

    private int next() {
      return at < text.count ? text.at(at) : END;
    }

    /** Goes past the next byte if it can stand there; the first that can not stays the FAULT. */
    private void take(boolean canStand) {
      if (!canStand) {
        faulty = true;
      }
      if (!faulty) {
        at++;
      }
    }
  }

  /**
   * Unlike rows of what is SENT, each kept once. A row takes eight longs, a byte of them for each
   * byte SENT and the last one for their number, so that all of them are little room.
   */
  private static final class Rows {
    private static final int LONGS = 8;
    private static final int BYTES_OF_LONG = 8;
    private static final int BITS_OF_BYTE = 8;
    private static final int SHIFT_OF_LENGTH = 56;

    private final long[] packed = new long[MOST_STATES * LONGS];
    private int length;
    int count;

    private boolean hasRoom() {
      return count >= 0 && count < MOST_STATES;
    }

    /** A new row is built up behind the last one; it counts only by finish(). */
    void begin() {
      length = 0;
      for (int i = 0; i < LONGS && hasRoom(); i++) {
        packed[count * LONGS + i] = 0;
      }
    }

    void add(int sentByte) {
      if (hasRoom() && length >= 0 && length < MOST_TRIED) {
        long value = sentByte & 255;
        int at = count * LONGS + length / BYTES_OF_LONG;
        packed[at] |= value << BITS_OF_BYTE * (length % BYTES_OF_LONG);
        length++;
      }
    }

    void finish() {
      if (hasRoom()) {
        packed[count * LONGS + LONGS - 1] |= (long) length << SHIFT_OF_LENGTH;
        if (isNew()) {
          count++;
        }
      }
    }

    private boolean isNew() {
      for (int i = 0; i < count; i++) {
        if (areAlike(i, count)) {
          return false;
        }
      }
      return true;
    }

    private boolean areAlike(int one, int other) {
      for (int i = 0; i < LONGS; i++) {
        int atOne = one * LONGS + i;
        int atOther = other * LONGS + i;
        boolean known = atOne >= 0 && atOne < packed.length && atOther >= 0 && atOther < packed.length;
        if (!known || packed[atOne] != packed[atOther]) {
          return false;
        }
      }
      return true;
    }
  }

  /** Tries STATES from THE START; what a call found stands in the fields behind it. */
  private static final class Trials {
    private final World world;
    private final Bytes row;
    private final Machine machine = new Machine();
    private final int[] readings = new int[LETTER_COUNT];
    final Rows rows = new Rows();
    int fitCount;
    int inAll;
    int inSome;
    int fewestBits;
    boolean unbroken;

    Trials(World world, Bytes row) {
      this.world = world;
      this.row = row;
    }

    /** THE START with the bits of a STATE gone over. */
    void setOut(int state) {
      machine.copyFrom(world.startMachine);
      for (int i = 0; i < world.suspectWords.count; i++) {
        if ((state >> i & 1) == 1) {
          int at = world.suspectWords.at(i);
          machine.writeWord(at, machine.readWord(at) ^ 1 << world.suspectBits.at(i));
        }
      }
    }

    /** FITS; if so, the machine stands behind the n HOURS. */
    boolean doesFit(int state, int n) {
      setOut(state);
      int matched = 0;
      for (int i = 0; i < n; i++) {
        int sentByte = machine.passHour();
        if (sentByte != NOTHING_SENT) {
          if (matched >= row.count || row.at(matched) != sentByte) {
            return false;
          }
          matched++;
        }
      }
      return matched == row.count;
    }

    /** FITTING, SURE, MAY and LEAST. States go up, so the first with the fewest is the least. */
    void survey(int n) {
      int states = world.stateCount();
      fitCount = 0;
      inAll = states - 1;
      inSome = 0;
      fewestBits = states - 1;
      for (int state = 0; state < states; state++) {
        if (doesFit(state, n)) {
          fitCount++;
          inAll &= state;
          inSome |= state;
          if (Integer.bitCount(state) < Integer.bitCount(fewestBits)) {
            fewestBits = state;
          }
        }
      }
    }

    /** m HOURS more, with a row of what is SENT in them; answers BROKEN. */
    int goOn(int m) {
      int firstBroken = NONE;
      rows.begin();
      for (int i = 0; i < m; i++) {
        int sentByte = machine.passHour();
        if (sentByte != NOTHING_SENT) {
          rows.add(sentByte);
        }
        if (firstBroken == NONE) {
          machine.readInto(readings);
          int rule = world.rules.firstTrue(readings);
          firstBroken = rule == NONE ? NONE : 100 * i + rule;
        }
      }
      return firstBroken;
    }

    /** SAFE and PARTS of an ASK over all STATES that FIT. */
    void judge(int ask, int n, int m) {
      fitCount = 0;
      unbroken = true;
      rows.count = 0;
      int states = world.stateCount();
      for (int state = 0; state < states; state++) {
        if (doesFit(state, n)) {
          fitCount++;
          world.asks.doTo(machine, ask);
          unbroken = goOn(m) == NONE && unbroken;
          rows.finish();
        }
      }
    }
  }
}
