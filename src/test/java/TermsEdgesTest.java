/**
 * The sentences of "Terms" in ../shared/DOC.md that name an edge (a least, a greatest, empty, full,
 * held within, from the end to the beginning), each with a test of its own: the sentence is named
 * ahead of its calls. Answers were worked out by hand from the document.
 */
public final class TermsEdgesTest {
  private static final int WAIT = 0;
  private static final int SET = 32;
  private static final int ADD = 64;
  private static final int SWITCH = 96;
  private static final int TURN = 128;
  private static final int JUMP = 160;
  private static final int FEEL = 192;
  private static final int SEND = 224;

  private static final int BOX = 0;
  private static final int TALKING = 1;
  private static final int FEELING = 2;
  private static final int LYING = 3;
  private static final int WARMING = 4;
  private static final int TURNING = 5;
  private static final int SPARE = 6;
  private static final int BROKEN = 7;

  private static final int PLACE = 0;
  private static final int NUMBER = 1;
  private static final int HEAT = 2;
  private static final int FUEL = 3;
  private static final int DISH = 4;
  private static final int REST = 5;
  private static final int HOUR = 6;
  private static final int POWER = 7;
  private static final int ON = 8;
  private static final int SILENT = 9;

  private static final int COLD = 6;
  private static final int DRIFT = 7;
  private static final int SILENCE = 8;
  private static final int DELAY = 9;

  private static int wrong = 0;
  private static int asked = 0;
  private static String sentence = "";

  private static void due(String what, long got, long want) {
    asked++;
    if (got != want) {
      wrong++;
      System.out.println(sentence + "\n  " + what + " answered " + got + ", due is " + want);
    }
  }

  private static void state(FarMachine x, int what, int want) {
    due("state(" + what + ")", x.state(what), want);
  }

  private static void words(FarMachine x, int from, int... values) {
    for (int i = 0; i < values.length; i++) {
      due("word", x.word(from + i, values[i]) < 0 ? 1 : 0, 0);
    }
  }

  private static void feed(FarMachine x, String text) {
    for (int i = 0; i < text.length(); i++) {
      x.feed(1, text.charAt(i));
    }
  }

  private static int rule(FarMachine x, String text) {
    feed(x, text);
    return x.rule();
  }

  /** It talks, keeps warm by one degree an HOUR, and its DISH drifts late. */
  private static FarMachine talker() {
    FarMachine x = new FarMachine();
    x.box(0, TALKING, true);
    x.box(1, WARMING, true);
    x.set(DRIFT, 99);
    return x;
  }

  /** One WORD at a PLACE, done in HOUR 0 of a new object. */
  private static FarMachine did(int place, int number, int word) {
    FarMachine x = new FarMachine();
    x.set(PLACE, place);
    x.set(NUMBER, number);
    x.word(place, word);
    x.hours(1);
    return x;
  }

  public static void main(String[] args) {
    firstValues(); toldAlone(); powers(); warmth();
    waiting(); setting(); adding(); switching(); turning(); turningNeeds(); jumping(); feeling();
    sending(); sendingNeeds(); feltHeat(); feltRest(); feltWords();
    comesFirst(); resting(); places(); stays();
    heatHeld(); cold(); coldEdges(); drift(); driftHeld(); silence(); silenceAnew(); lastHour();
    delays(); delayOfThen(); underWay(); ordered(); kindsOfCommands(); commandsAtTheLastHour();
    sentFull(); sentLost(); heardAt(); heardByDelayOfThen(); heardAtTheLastHour();
    suspectBits(); suspectsOfOneWord(); statesOfNone(); statesOfAll(); startAsThen(); triedHours();
    fitsEmpty(); fitsJust(); fitsFull(); fitsLost(); fittingNone(); fittingAll(); fittingOne(); least();
    ruleSizes(); ruleBytes(); rulePrefixes(); ruleBehindFault(); feedEdges(); ruleNumbers(); ruleSigns(); ruleLetters(); ruleNots();
    brokenBehind(); brokenOrder();
    askMoment(); askSilence(); askEach(); safeEdges(); safeStates(); partsEdges(); noneFits(); bestEdges();
    fewestEdges(); fewestJumps(); fewestTies(); keepEdges(); keepTies();
    warmEdges(); warmCold(); aimEdges(); aimFuel(); unlikeEdges(); imageEdges(); imageOfAll(); imageStays();
    System.out.println(asked + " answers asked, " + wrong + " wrong");
    if (wrong != 0) {
      System.exit(1);
    }
  }

  // ==== THE MACHINE

  private static void firstValues() {
    sentence = "THE MACHINE: what it has at first";
    FarMachine other = new FarMachine();
    other.word(3, 200);
    other.box(3, TURNING, true);
    other.set(HEAT, 1);
    other.command(2, 0, 0);
    other.suspect(0, 0);
    other.put(1);
    other.feed(1, 104L);
    other.ask(2, 0, 0);
    other.hole(0, 1);
    other.start();
    other.image();
    other.wordOf(-1);
    FarMachine x = new FarMachine();
    int[] first = {0, 0, 50, 60, 0, 0, 0, 0, 0, 0};
    for (int what = 0; what < 10; what++) {
      state(x, what, first[what]);
    }
    for (int at = 0; at < 48; at++) {
      due("wordOf(" + at + ")", x.wordOf(at), 0);
    }
    for (int what = 0; what < 8; what++) {
      due("count(" + what + ")", x.count(what), 0);
      due("count(" + (11 + what) + ")", x.count(11 + what), what < 6 ? 0 : -9);
    }
    for (int box = 0; box < 8; box++) {
      due("KIND of " + box, x.box(box, BOX, false), BOX);
    }
    due("sent()", x.sent(), 0);
    due("heard(0)", x.heard(0), 1001);
    due("no START", x.unlike(-1), -3);
    due("no IMAGE", x.on(), -3);
    due("THE ROW is empty", x.unput(), 0);
    due("THE TAPE is empty", x.rule(), -20);
    due("no HOLE", x.fewest(1), -9);
  }

  /** One number becomes another and back: nothing else may be another then, now or later. */
  private static void toldAlone() {
    sentence = "set(): PLACE (what 0), NUMBER (1), HEAT (2), FUEL (3), DISH (4), REST (5), COLD (6), DRIFT (7),"
        + " SILENCE (8), DELAY (9) becomes v";
    int[] other = {40, 99, 3, 1, 19, 31, 80, 2, 400, 17};
    int[] told = {3, 5, 45, 9, -3, 2, 30, 7, 11, 3};
    for (int what = 0; what < 10; what++) {
      FarMachine x = toldAll(told);
      FarMachine twin = toldAll(told);
      due("set(" + what + ", other)", x.set(what, other[what]), 1);
      for (int i = 0; i < 6; i++) {
        state(x, i, i == what ? other[i] : told[i]);
      }
      due("set(" + what + ", told)", x.set(what, told[what]), 1);
      x.command(2, 0, 0);
      twin.command(2, 0, 0);
      for (int hour = 0; hour < 30; hour++) {
        x.hours(1);
        twin.hours(1);
        for (int i = 0; i < 10; i++) {
          state(x, i, twin.state(i));
        }
      }
    }
  }

  private static FarMachine toldAll(int[] told) {
    FarMachine x = new FarMachine();
    x.box(0, BOX, true);
    for (int at = 0; at < 48; at++) {
      x.word(at, ADD + at % 32);
    }
    for (int what = 0; what < 10; what++) {
      x.set(what, told[what]);
    }
    return x;
  }

  private static void powers() {
    sentence = "An ON one takes POWER: BOX 1; TALKING 4; FEELING 2; LYING as FEELING; WARMING 3; TURNING 5;"
        + " SPARE one less than WARMING; BROKEN none";
    int[] powers = {1, 4, 2, 2, 3, 5, 2, 0};
    for (int kind = 0; kind < 8; kind++) {
      FarMachine x = new FarMachine();
      x.box(7, kind, false);
      state(x, POWER, 0);
      x.box(7, kind, true);
      state(x, POWER, powers[kind]);
      for (int box = 0; box < 7; box++) {
        x.box(box, kind, true);
      }
      state(x, POWER, 8 * powers[kind]);
      due("felt(7)", x.felt(7), 8 * powers[kind]);
      state(x, ON, 255);
    }
  }

  private static void warmth() {
    sentence = "An ON one WARMS: WARMING 3 an hour, SPARE 1; others none";
    for (int kind = 0; kind < 8; kind++) {
      FarMachine x = new FarMachine();
      int warms = kind == WARMING ? 3 : kind == SPARE ? 1 : 0;
      for (int box = 0; box < 8; box++) {
        x.box(box, kind, box < 5);
      }
      x.hours(1);
      state(x, HEAT, 50 + 5 * warms - 2);
    }
  }

  // ==== ACTS

  private static void waiting() {
    sentence = "0 WAIT: REST is n (n 0: PLACE stays)";
    for (int n = 0; n < 32; n++) {
      FarMachine x = did(5, 0, WAIT + n);
      state(x, REST, n);
      state(x, PLACE, n == 0 ? 5 : 6);
    }
    FarMachine x = did(5, 0, WAIT + 31);
    x.word(6, SET + 3);
    x.hours(31);
    state(x, REST, 0);
    state(x, NUMBER, 0);
    x.hours(1);
    state(x, NUMBER, 3);
    x = did(5, 0, WAIT + 1);
    x.word(6, SET + 3);
    x.hours(1);
    state(x, REST, 0);
    state(x, NUMBER, 0);
    x.hours(1);
    state(x, NUMBER, 3);
  }

  private static void setting() {
    sentence = "1 SET: NUMBER is n";
    for (int n = 0; n < 32; n++) {
      state(did(0, -77, SET + n), NUMBER, n);
    }
  }

  private static void adding() {
    sentence = "2 ADD: n less 16 to NUMBER (held within -128 .. 127)";
    for (int n = 0; n < 32; n++) {
      state(did(0, 10, ADD + n), NUMBER, n - 6);
    }
    state(did(0, 112, ADD + 31), NUMBER, 127);
    state(did(0, 113, ADD + 31), NUMBER, 127);
    state(did(0, 127, ADD + 17), NUMBER, 127);
    state(did(0, 127, ADD + 15), NUMBER, 126);
    state(did(0, -112, ADD + 0), NUMBER, -128);
    state(did(0, -113, ADD + 0), NUMBER, -128);
    state(did(0, -128, ADD + 15), NUMBER, -128);
    state(did(0, -128, ADD + 17), NUMBER, -127);
  }

  private static void switching() {
    sentence = "3 SWITCH: BOX n modulo 8 is ON, if n is 8 or more, modulo 16, else OFF";
    for (int n = 0; n < 32; n++) {
      int bit = 1 << (n % 8);
      boolean on = n >= 8 && n < 16 || n >= 24;
      state(did(0, 0, SWITCH + n), ON, on ? bit : 0);
      FarMachine x = new FarMachine();
      for (int box = 0; box < 8; box++) {
        x.box(box, BROKEN, true);
      }
      x.word(0, SWITCH + n);
      x.hours(1);
      state(x, ON, on ? 255 : 255 - bit);
      due("KIND stays", x.box(n % 8, BOX, true), BROKEN);
    }
    FarMachine x = new FarMachine();
    x.box(7, WARMING, false);
    x.word(0, SWITCH + 15);
    x.hours(1);
    sentence = "AN HOUR: what (2) SWITCHes counts in (3)";
    state(x, HEAT, 51);
  }

  private static FarMachine turned(int dish, int fuel, int n) {
    FarMachine x = new FarMachine();
    x.box(7, TURNING, true);
    x.set(DISH, dish);
    x.set(FUEL, fuel);
    x.word(0, TURN + n);
    x.hours(1);
    state(x, PLACE, 1);
    return x;
  }

  private static void turning() {
    sentence = "4 TURN: DISH by n less 16 (held within -20 .. 20)";
    for (int n = 0; n < 32; n++) {
      FarMachine x = turned(0, 60, n);
      state(x, DISH, n - 16);
      state(x, FUEL, 60 - Math.abs(n - 16));
    }
    int[][] held = {{20, 17, 20, 1}, {19, 17, 20, 1}, {19, 18, 20, 2}, {5, 31, 20, 15}, {6, 31, 20, 15},
        {-20, 15, -20, 1}, {-19, 15, -20, 1}, {-19, 14, -20, 2}, {-4, 0, -20, 16}, {-5, 0, -20, 16},
        {20, 0, 4, 16}, {-20, 31, -5, 15}, {20, 16, 20, 0}};
    for (int[] h : held) {
      FarMachine x = turned(h[0], 60, h[1]);
      state(x, DISH, h[2]);
      state(x, FUEL, 60 - h[3]);
    }
  }

  private static void turningNeeds() {
    sentence = "4 TURN: if some TURNING box is ON and FUEL is as many as that without sign, which is less then";
    for (int n = 0; n < 32; n++) {
      int cost = Math.abs(n - 16);
      FarMachine x = turned(1, cost, n);
      state(x, DISH, n - 15);
      state(x, FUEL, 0);
      if (cost > 0) {
        x = turned(1, cost - 1, n);
        state(x, DISH, 1);
        state(x, FUEL, cost - 1);
      }
    }
    for (int kind = 0; kind < 8; kind++) {
      for (int on = 0; on < 2; on++) {
        FarMachine x = new FarMachine();
        x.box(0, kind, on == 1);
        x.word(0, TURN + 20);
        x.hours(1);
        boolean turns = kind == TURNING && on == 1;
        state(x, DISH, turns ? 4 : 0);
        state(x, FUEL, turns ? 56 : 60);
      }
    }
  }

  private static void jumping() {
    sentence = "5 JUMP: PLACE is n, if NUMBER is above 0";
    for (int n = 0; n < 32; n++) {
      state(did(7, 1, JUMP + n), PLACE, n);
      state(did(7, 127, JUMP + n), PLACE, n);
      state(did(7, 0, JUMP + n), PLACE, 8);
      state(did(7, -1, JUMP + n), PLACE, 8);
      state(did(7, -128, JUMP + n), PLACE, 8);
    }
    FarMachine x = did(31, 1, JUMP + 31);
    x.hours(3);
    state(x, PLACE, 31);
    state(x, NUMBER, 1);
    state(x, REST, 0);
  }

  private static void feeling() {
    sentence = "6 FEEL: NUMBER is what is felt";
    for (int n = 0; n < 32; n++) {
      FarMachine x = variety();
      int felt = x.felt(n);
      x.word(9, FEEL + n);
      x.hours(1);
      state(x, NUMBER, felt);
      state(x, PLACE, 10);
    }
    FarMachine x = new FarMachine();
    x.hours(23);
    x.word(0, FEEL + 3);
    x.hours(1);
    state(x, NUMBER, 23);
    x.set(PLACE, 0);
    x.hours(1);
    state(x, NUMBER, 0);
    x = did(47, 0, FEEL + 6);
    state(x, NUMBER, 47);
    state(x, PLACE, 0);
    x = did(0, -100, FEEL + 5);
    state(x, NUMBER, -100);
  }

  /** A machine of which nearly all that can be FELT is another number; it can TALK. */
  private static FarMachine variety() {
    FarMachine x = new FarMachine();
    x.box(0, LYING, true);
    x.box(1, TALKING, true);
    x.box(5, SPARE, true);
    x.set(PLACE, 9);
    x.set(NUMBER, -33);
    x.set(HEAT, 71);
    x.set(FUEL, 88);
    x.set(DISH, -2);
    for (int at = 16; at < 48; at++) {
      x.word(at, 250 - 4 * at);
    }
    x.set(SILENCE, 999);
    return x;
  }

  private static void sending() {
    sentence = "7 SEND: what is felt is SENT (a byte)";
    for (int n = 0; n < 32; n++) {
      FarMachine x = variety();
      x.set(DELAY, 0);
      int felt = x.felt(n);
      x.word(9, SEND + n);
      x.hours(1);
      due("sent()", x.sent(), 1);
      due("heard(0) of SEND " + n, x.heard(0), felt);
      state(x, NUMBER, -33);
      state(x, PLACE, 10);
    }
  }

  private static void sendingNeeds() {
    sentence = "7 SEND: if some TALKING box is ON and DISH is within -2 .. 2";
    for (int dish = -20; dish <= 20; dish++) {
      FarMachine x = talker();
      x.set(DISH, dish);
      x.word(0, SEND + 1);
      x.hours(1);
      due("sent() by DISH " + dish, x.sent(), dish >= -2 && dish <= 2 ? 1 : 0);
      state(x, PLACE, 1);
    }
    for (int kind = 0; kind < 8; kind++) {
      for (int on = 0; on < 2; on++) {
        FarMachine x = new FarMachine();
        x.box(7, kind, on == 1);
        x.word(0, SEND + 1);
        x.hours(1);
        due("sent() by KIND " + kind, x.sent(), kind == TALKING && on == 1 ? 1 : 0);
      }
    }
    sentence = "AN HOUR: DISH drifts in (4) and BOXES go OFF in (3), behind what (2) SENDs";
    FarMachine x = new FarMachine();
    x.box(0, TALKING, true);
    x.set(DRIFT, 1);
    words(x, 0, SET, SEND + 1, SEND + 1);
    x.set(DISH, 2);
    x.set(HEAT, 14);
    x.hours(2);
    due("sent()", x.sent(), 1);
    state(x, DISH, 3);
    x.hours(1);
    due("sent()", x.sent(), 1);
    x.set(DISH, 0);
    x.set(PLACE, 1);
    x.set(COLD, 99);
    x.box(0, TALKING, true);
    x.hours(1);
    due("sent()", x.sent(), 2);
    state(x, ON, 0);
    x.set(DISH, 0);
    x.hours(1);
    due("sent()", x.sent(), 2);
  }

  private static void feltHeat() {
    sentence = "FELT 0: HEAT (by a FEELING box that is ON: as it is; without one 0;"
        + " if the ON one of least number is LYING 5 more)";
    for (int kind = 0; kind < 8; kind++) {
      FarMachine x = new FarMachine();
      x.box(7, kind, false);
      due("felt(0), OFF", x.felt(0), 0);
      x.box(7, kind, true);
      due("felt(0) by KIND " + kind, x.felt(0), kind == FEELING ? 50 : kind == LYING ? 55 : 0);
    }
    FarMachine x = new FarMachine();
    x.box(0, LYING, true);
    x.box(1, FEELING, true);
    int[][] heats = {{0, 5}, {1, 6}, {99, 104}};
    for (int[] h : heats) {
      x.set(HEAT, h[0]);
      due("felt(0), LYING ahead", x.felt(0), h[1]);
    }
    x.box(0, LYING, false);
    due("felt(0), LYING is OFF", x.felt(0), 99);
    x.set(HEAT, 0);
    due("felt(0) of HEAT 0", x.felt(0), 0);
    x.set(HEAT, 40);
    x.box(2, LYING, true);
    due("felt(0), LYING behind", x.felt(0), 40);
    x.box(1, FEELING, false);
    due("felt(0), LYING alone", x.felt(0), 45);
    x.box(7, FEELING, true);
    due("felt(0), LYING ahead again", x.felt(0), 45);
    x.box(2, BOX, true);
    due("felt(0), no LYING", x.felt(0), 40);
  }

  private static void feltRest() {
    sentence = "FELT: 1 FUEL, 2 DISH, 3 the HOUR modulo 24, 4 how many BOXES are ON, 5 NUMBER, 6 PLACE, 7 POWER of all";
    FarMachine x = new FarMachine();
    int[][] ends = {{FUEL, 1, 0, 99}, {DISH, 2, -20, 20}, {NUMBER, 5, -128, 127}, {PLACE, 6, 0, 47}};
    for (int[] e : ends) {
      for (int i = 2; i < 4; i++) {
        x.set(e[0], e[i]);
        due("felt(" + e[1] + ")", x.felt(e[1]), e[i]);
      }
    }
    due("felt(4) of none", x.felt(4), 0);
    for (int box = 0; box < 8; box++) {
      x.box(box, TURNING, true);
      due("felt(4)", x.felt(4), box + 1);
      due("felt(7)", x.felt(7), 5 * box + 5);
    }
    due("felt(3) in HOUR 0", x.felt(3), 0);
    x.hours(23);
    due("felt(3) in HOUR 23", x.felt(3), 23);
    x.hours(1);
    due("felt(3) in HOUR 24", x.felt(3), 0);
    x.hours(23);
    due("felt(3) in HOUR 47", x.felt(3), 23);
    x.hours(1);
    due("felt(3) in HOUR 48", x.felt(3), 0);
    x.hours(2000);
    due("felt(3) in HOUR 2000", x.felt(3), 8);
  }

  private static void feltWords() {
    sentence = "FELT: 8 and more: the WORD of 16 and n, less 128";
    FarMachine x = new FarMachine();
    for (int at = 0; at < 48; at++) {
      x.word(at, 5 * at + 3);
    }
    for (int n = 8; n < 32; n++) {
      due("felt(" + n + ")", x.felt(n), 5 * (16 + n) + 3 - 128);
    }
    x.word(24, 0);
    due("felt(8)", x.felt(8), -128);
    x.word(24, 128);
    due("felt(8)", x.felt(8), 0);
    x.word(24, 255);
    due("felt(8)", x.felt(8), 127);
    due("felt(7) is no WORD", x.felt(7), 0);
  }

  // ==== AN HOUR

  private static void comesFirst() {
    sentence = "AN HOUR (1): what comes in it from earth is done, ahead of (2)";
    FarMachine x = new FarMachine();
    x.set(DELAY, 0);
    x.word(0, SET + 1);
    x.command(0, 0, SET + 2);
    x.hours(1);
    state(x, NUMBER, 2);
    x.set(REST, 31);
    x.word(47, SET + 9);
    x.command(1, 0, 47);
    x.hours(1);
    state(x, NUMBER, 9);
    state(x, PLACE, 0);
    state(x, REST, 0);
  }

  private static void resting() {
    sentence = "AN HOUR (2): if REST is above 0 it is 1 less, else the WORD at PLACE is done";
    for (int rest = 0; rest < 3; rest++) {
      FarMachine x = new FarMachine();
      x.set(REST, rest);
      words(x, 0, SET + 7);
      x.hours(rest);
      x.hours(1);
      state(x, REST, 0);
      state(x, PLACE, 1);
      state(x, NUMBER, 7);
    }
    FarMachine x = new FarMachine();
    x.set(REST, 31);
    words(x, 0, SET + 7);
    x.hours(1);
    state(x, REST, 30);
    state(x, PLACE, 0);
    x.hours(30);
    state(x, REST, 0);
    state(x, NUMBER, 0);
    x.hours(1);
    state(x, NUMBER, 7);
  }

  private static void places() {
    sentence = "AN HOUR (2): PLACE is 1 more behind it (47: 0)";
    for (int at = 0; at < 48; at++) {
      state(did(at, 0, SET + 1), PLACE, (at + 1) % 48);
    }
    int[] acts = {WAIT + 1, WAIT + 31, SET, ADD, SWITCH, TURN, JUMP + 20, FEEL, SEND};
    for (int act : acts) {
      state(did(46, 0, act), PLACE, 47);
      state(did(47, 0, act), PLACE, 0);
    }
    FarMachine x = new FarMachine();
    for (int at = 0; at < 48; at++) {
      x.word(at, ADD + 17);
    }
    x.hours(48);
    state(x, PLACE, 0);
    state(x, NUMBER, 48);
    x.hours(47);
    state(x, PLACE, 47);
    state(x, NUMBER, 95);
  }

  private static void stays() {
    sentence = "AN HOUR (2): PLACE is 1 more, if it did not JUMP nor STAY";
    for (int at = 0; at < 48; at++) {
      FarMachine x = did(at, 0, WAIT);
      state(x, PLACE, at);
      state(x, REST, 0);
      x.hours(3);
      state(x, PLACE, at);
      state(did(at, 1, JUMP + 31), PLACE, 31);
      state(did(at, 1, JUMP + 0), PLACE, 0);
    }
  }

  private static int heatBehind(int heat, int warming, int spare) {
    FarMachine x = new FarMachine();
    for (int box = 0; box < warming + spare; box++) {
      x.box(box, box < warming ? WARMING : SPARE, true);
    }
    x.set(HEAT, heat);
    x.hours(1);
    return x.state(HEAT);
  }

  private static void heatHeld() {
    sentence = "AN HOUR (3): HEAT is more by all that WARMS, and less by 2, held within 0 .. 99";
    int[][] all = {{0, 0, 0, 0}, {1, 0, 0, 0}, {2, 0, 0, 0}, {3, 0, 0, 1}, {99, 0, 0, 97}, {0, 0, 1, 0}, {1, 0, 1, 0},
        {2, 0, 1, 1}, {99, 0, 1, 98}, {0, 0, 2, 0}, {99, 0, 2, 99}, {0, 1, 0, 1}, {98, 1, 0, 99}, {99, 1, 0, 99},
        {97, 1, 0, 98}, {77, 8, 0, 99}, {76, 8, 0, 98}, {78, 8, 0, 99}, {0, 8, 0, 22}, {50, 3, 5, 62}};
    for (int[] a : all) {
      due("HEAT behind " + a[0] + " by " + a[1] + " and " + a[2], heatBehind(a[0], a[1], a[2]), a[3]);
    }
  }

  private static void cold() {
    sentence = "AN HOUR (3): below COLD (told; 10 at first) every box that is ON but WARMING ones and SPARE is OFF";
    FarMachine x = new FarMachine();
    x.box(0, BOX, true);
    x.set(HEAT, 12);
    x.hours(1);
    state(x, HEAT, 10);
    state(x, ON, 1);
    x.hours(1);
    state(x, HEAT, 8);
    state(x, ON, 0);
    x = new FarMachine();
    x.box(0, BOX, true);
    x.set(HEAT, 11);
    x.hours(1);
    state(x, HEAT, 9);
    state(x, ON, 0);
    for (int kind = 0; kind < 8; kind++) {
      x = new FarMachine();
      x.box(2, kind, true);
      x.box(3, kind, false);
      x.set(HEAT, 0);
      x.hours(1);
      state(x, ON, kind == WARMING || kind == SPARE ? 4 : 0);
      due("KIND stays", x.box(2, BOX, true), kind);
    }
  }

  private static void coldEdges() {
    sentence = "AN HOUR (3): below COLD (0 .. 99 can be told)";
    int[][] all = {{0, 1, 1}, {0, 0, 1}, {1, 3, 1}, {1, 2, 0}, {50, 52, 1}, {50, 51, 0}, {97, 99, 1}, {98, 99, 0}, {99, 99, 0}};
    for (int[] a : all) {
      FarMachine x = new FarMachine();
      x.box(4, FEELING, true);
      x.set(COLD, a[0]);
      x.set(HEAT, a[1]);
      x.hours(1);
      due("ON by COLD " + a[0] + " and HEAT " + a[1], x.state(ON), 16 * a[2]);
    }
    FarMachine x = new FarMachine();
    x.set(COLD, 99);
    x.box(4, FEELING, true);
    sentence = "AN HOUR (3): COLD counts as HOURS go by, not as it is told";
    state(x, ON, 16);
  }

  private static void drift() {
    sentence = "AN HOUR (4): each DRIFT hours (told 1 .. 99; 24 at first: HOURS that DRIFT divides, not 0) DISH is 1 more";
    FarMachine x = new FarMachine();
    int[][] firsts = {{1, 1, 0}, {23, 24, 0}, {1, 25, 1}, {23, 48, 1}, {1, 49, 2}};
    for (int[] f : firsts) {
      due("hours(" + f[0] + ")", x.hours(f[0]), f[1]);
      state(x, DISH, f[2]);
    }
    int[] drifts = {1, 2, 7, 98, 99};
    for (int each : drifts) {
      x = new FarMachine();
      x.set(DRIFT, each);
      for (int hour = 0; hour < 200; hour++) {
        x.hours(1);
        if (hour == 0 || hour % each == 0 || hour % each == each - 1) {
          state(x, DISH, Math.min(20, hour / each));
        }
      }
    }
    x = new FarMachine();
    x.set(DRIFT, 6);
    x.set(DISH, -20);
    x.hours(25);
    state(x, DISH, -16);
  }

  private static void driftHeld() {
    sentence = "AN HOUR (4): DISH is 1 more (20 at most)";
    FarMachine x = new FarMachine();
    x.hours(1);
    x.set(DRIFT, 1);
    x.set(DISH, 18);
    int[] want = {19, 20, 20, 20};
    for (int dish : want) {
      x.hours(1);
      state(x, DISH, dish);
    }
  }

  private static void silence() {
    sentence = "AN HOUR (5): as they are SILENCE (told 1 .. 999; 200 at first) or more, PLACE is 40, REST 0,"
        + " and they are counted from 0 anew";
    int[] told = {1, 2, 200, 999};
    for (int hours : told) {
      FarMachine x = new FarMachine();
      if (hours != 200) {
        x.set(SILENCE, hours);
      }
      x.word(7, WAIT);
      x.set(PLACE, 7);
      for (int round = 0; round < 2; round++) {
        x.hours(hours - 1);
        state(x, SILENT, hours - 1);
        state(x, PLACE, round == 0 ? 7 : 40);
        x.set(REST, 31);
        x.hours(1);
        state(x, SILENT, 0);
        state(x, PLACE, 40);
        state(x, REST, 0);
      }
    }
    // or more: told anew as more were counted
    FarMachine x = new FarMachine();
    x.hours(50);
    x.set(SILENCE, 50);
    state(x, PLACE, 0);
    state(x, SILENT, 50);
    x.hours(1);
    state(x, PLACE, 40);
    state(x, SILENT, 0);
    x = new FarMachine();
    x.hours(50);
    x.set(SILENCE, 51);
    x.hours(1);
    state(x, PLACE, 40);
    x = new FarMachine();
    x.hours(50);
    x.set(SILENCE, 52);
    x.hours(1);
    state(x, PLACE, 0);
    state(x, SILENT, 51);
    sentence = "AN HOUR (5): it comes behind what (2) does";
    x = did(0, 0, SET + 4);
    x.set(SILENCE, 2);
    x.word(1, SET + 5);
    x.word(40, SET + 6);
    x.hours(1);
    state(x, NUMBER, 5);
    state(x, PLACE, 40);
    x.hours(1);
    state(x, NUMBER, 6);
    state(x, PLACE, 41);
  }

  private static void silenceAnew() {
    sentence = "AN HOUR (5): HOURS in which nothing came are counted (from 0 anew, when something came)";
    for (int kind = 0; kind < 3; kind++) {
      FarMachine x = new FarMachine();
      x.set(DELAY, 0);
      x.set(SILENCE, 5);
      x.hours(4);
      state(x, SILENT, 4);
      x.command(kind, 30, 0);
      state(x, SILENT, 4);
      x.hours(1);
      state(x, SILENT, 0);
      state(x, PLACE, 0);
      x.hours(4);
      state(x, SILENT, 4);
      x.hours(1);
      state(x, PLACE, 40);
    }
    // under way is not come
    FarMachine y = new FarMachine();
    y.set(DELAY, 5);
    y.set(SILENCE, 3);
    y.command(2, 0, 0);
    y.command(2, 0, 0);
    y.hours(2);
    state(y, SILENT, 2);
    state(y, PLACE, 0);
    y.hours(1);
    state(y, SILENT, 0);
    state(y, PLACE, 40);
    y.hours(1);
    state(y, SILENT, 1);
    // told there is not come from earth
    FarMachine x = new FarMachine();
    x.set(SILENCE, 1);
    x.set(DELAY, 0);
    x.command(2, 0, 0);
    x.hours(1);
    state(x, PLACE, 0);
    state(x, SILENT, 0);
    x.word(0, 0);
    x.set(PLACE, 1);
    x.hours(1);
    state(x, PLACE, 40);
    x = new FarMachine();
    x.hours(3);
    x.word(1, 1);
    x.box(1, 1, true);
    x.set(NUMBER, 1);
    state(x, SILENT, 3);
    x.hours(1);
    state(x, SILENT, 4);
  }

  private static void lastHour() {
    sentence = "HOUR is 1 more (2000 at most)";
    FarMachine x = new FarMachine();
    due("hours(1999)", x.hours(1999), 1999);
    due("hours(1)", x.hours(1), 2000);
    due("hours(1)", x.hours(1), 2000);
    due("hours(2000)", x.hours(2000), 2000);
    state(x, HOUR, 2000);
    due("count(0)", x.count(0), 2000);
    x = new FarMachine();
    due("hours(2000)", x.hours(2000), 2000);
    sentence = "AN HOUR goes by at HOUR 2000 too";
    x.set(SILENCE, 999);
    x.set(PLACE, 3);
    x.word(3, SET + 8);
    x.set(HEAT, 60);
    x.set(DISH, 0);
    // 2000 is 16 times 125, and no 3 divides it
    x.set(DRIFT, 16);
    x.hours(1);
    state(x, NUMBER, 8);
    state(x, HEAT, 58);
    state(x, DISH, 1);
    x.set(DRIFT, 3);
    x.hours(1);
    state(x, DISH, 1);
    state(x, HEAT, 56);
    x.set(DRIFT, 1);
    x.hours(1);
    state(x, DISH, 2);
    int silent = x.state(SILENT);
    x.hours(5);
    state(x, SILENT, silent + 5);
  }

  // ==== COMMANDS, what is SENT and HEARD

  private static void delays() {
    sentence = "COMMANDS go from earth in an HOUR and come DELAY (0 .. 20; 9 at first) HOURS later";
    for (int delay = 0; delay <= 20; delay++) {
      FarMachine x = new FarMachine();
      if (delay != 9) {
        x.set(DELAY, delay);
      }
      x.command(0, 47, 255);
      x.hours(delay);
      due("count(1)", x.count(1), 1);
      due("wordOf(47)", x.wordOf(47), 0);
      x.hours(1);
      due("count(1)", x.count(1), 0);
      due("wordOf(47)", x.wordOf(47), 255);
    }
  }

  private static void delayOfThen() {
    sentence = "COMMANDS come DELAY HOURS later: by the DELAY that was told as they went";
    FarMachine x = new FarMachine();
    x.set(DELAY, 20);
    x.command(0, 1, 1);
    x.set(DELAY, 0);
    x.hours(20);
    due("wordOf(1)", x.wordOf(1), 0);
    x.hours(1);
    due("wordOf(1)", x.wordOf(1), 1);
    x.command(0, 2, 2);
    x.set(DELAY, 20);
    x.hours(1);
    due("wordOf(2)", x.wordOf(2), 2);
  }

  private static void underWay() {
    sentence = "COMMANDS: 30 under way at most";
    FarMachine x = new FarMachine();
    for (int i = 0; i < 30; i++) {
      x.set(DELAY, i % 3);
      due("command " + i, x.command(0, i, 100 + i), i + 1);
    }
    due("command, the 31.", x.command(0, 40, 1), -6);
    x.hours(1);
    due("count(1)", x.count(1), 20);
    for (int i = 0; i < 30; i++) {
      due("wordOf(" + i + ")", x.wordOf(i), i % 3 == 0 ? 100 + i : 0);
    }
    x.set(DELAY, 20);
    for (int i = 20; i < 30; i++) {
      due("command " + i, x.command(2, 0, 0), i + 1);
    }
    due("command, the 31.", x.command(2, 0, 0), -6);
    x.hours(2);
    due("count(1)", x.count(1), 10);
    for (int i = 0; i < 30; i++) {
      due("wordOf(" + i + ")", x.wordOf(i), 100 + i);
    }
    due("wordOf(40)", x.wordOf(40), 0);
  }

  private static void ordered() {
    sentence = "COMMANDS: in order as sent";
    FarMachine x = new FarMachine();
    x.set(DELAY, 1);
    for (int i = 0; i < 30; i++) {
      x.command(i % 2, 5, i);
    }
    x.word(29, SET + 29);
    x.hours(2);
    due("wordOf(5)", x.wordOf(5), 28);
    state(x, NUMBER, 29);
    // sent in two HOURS, come in one: the one sent first is done first
    x = new FarMachine();
    x.set(DELAY, 3);
    x.command(0, 5, 1);
    x.hours(2);
    x.set(DELAY, 1);
    x.command(0, 5, 2);
    x.hours(1);
    due("wordOf(5)", x.wordOf(5), 0);
    x.hours(1);
    due("wordOf(5)", x.wordOf(5), 2);
  }

  private static void kindsOfCommands() {
    sentence = "COMMANDS: 0 a WORD becomes a value; 1 PLACE becomes a value (0 .. 47), REST 0; 2 nothing else";
    int[][] words = {{0, 0}, {0, 255}, {47, 0}, {47, 255}};
    for (int[] w : words) {
      FarMachine x = new FarMachine();
      x.set(DELAY, 0);
      x.set(REST, 31);
      x.word(w[0], 77);
      x.command(0, w[0], w[1]);
      x.hours(1);
      due("wordOf(" + w[0] + ")", x.wordOf(w[0]), w[1]);
      state(x, REST, 30);
      state(x, PLACE, 0);
    }
    int[] places = {0, 47};
    for (int place : places) {
      FarMachine x = new FarMachine();
      x.set(DELAY, 0);
      x.set(REST, 31);
      x.set(PLACE, 20);
      x.word(place, SET + 5);
      x.command(1, 48, place);
      x.hours(1);
      state(x, REST, 0);
      state(x, NUMBER, 5);
      state(x, PLACE, place == 0 ? 1 : 0);
    }
    FarMachine x = new FarMachine();
    x.hours(3);
    x.set(DELAY, 0);
    x.set(REST, 31);
    x.set(PLACE, 20);
    x.command(2, 7, 7);
    x.hours(1);
    state(x, REST, 30);
    state(x, PLACE, 20);
    state(x, NUMBER, 0);
    state(x, SILENT, 0);
    for (int at = 0; at < 48; at++) {
      due("wordOf(" + at + ")", x.wordOf(at), 0);
    }
  }

  private static void commandsAtTheLastHour() {
    sentence = "COMMANDS come DELAY HOURS later, at HOUR 2000 (at most) too";
    for (int ahead = 0; ahead < 3; ahead++) {
      for (int delay = 0; delay < 4; delay++) {
        FarMachine x = new FarMachine();
        x.hours(2000 - ahead);
        x.set(DELAY, delay);
        x.command(0, 3, 33);
        x.hours(delay);
        due("wordOf(3)", x.wordOf(3), 0);
        due("count(1)", x.count(1), 1);
        x.hours(1);
        due("wordOf(3)", x.wordOf(3), 33);
        due("count(1)", x.count(1), 0);
        state(x, SILENT, 0);
      }
    }
  }

  /** WORDS 0 .. 2: it SENDs NUMBER each third HOUR, and NUMBER is one more each time. */
  private static FarMachine counter() {
    FarMachine x = talker();
    words(x, 0, SEND + 5, ADD + 17, JUMP + 0);
    x.set(NUMBER, 1);
    x.set(SILENCE, 999);
    return x;
  }

  private static void sentFull() {
    sentence = "What is SENT is kept in order (60 at most; what is more is lost)";
    FarMachine x = counter();
    x.set(DELAY, 0);
    x.hours(3 * 58 + 1);
    due("sent()", x.sent(), 59);
    x.hours(3);
    due("sent()", x.sent(), 60);
    x.hours(3);
    due("sent()", x.sent(), 60);
    for (int i = 0; i < 60; i++) {
      due("heard(" + i + ")", x.heard(i), i + 1);
    }
    due("heard(60)", x.heard(60), 1001);
    x.hours(60);
    due("sent()", x.sent(), 60);
    due("heard(0)", x.heard(0), 1);
    due("heard(59)", x.heard(59), 60);
    due("heard(60)", x.heard(60), 1001);
  }

  private static void sentLost() {
    sentence = "sent(): how many bytes are SENT that are kept (HEARD or not)";
    FarMachine x = counter();
    x.set(DELAY, 20);
    x.hours(1);
    due("sent()", x.sent(), 1);
    due("heard(0)", x.heard(0), 1001);
    x.hours(19);
    due("sent()", x.sent(), 7);
    due("heard(0)", x.heard(0), 1);
    due("heard(1)", x.heard(1), 1001);
  }

  private static void heardAt() {
    sentence = "It is HEARD on earth as HOUR is that in which it was SENT and DELAY (of then), or later";
    for (int delay = 0; delay <= 20; delay++) {
      FarMachine x = talker();
      x.set(DELAY, delay);
      words(x, 0, SET + 9, SEND + 5);
      // SENT in HOUR 1
      x.hours(2);
      if (delay > 1) {
        due("heard(0), HOUR 2", x.heard(0), 1001);
        if (delay > 2) {
          x.hours(delay - 2);
        }
        due("heard(0), one too early", x.heard(0), 1001);
        x.hours(1);
      }
      due("heard(0), DELAY " + delay, x.heard(0), 9);
      due("heard(1)", x.heard(1), 1001);
      x.hours(100);
      due("heard(0), later", x.heard(0), 9);
    }
  }

  private static void heardByDelayOfThen() {
    sentence = "It is HEARD by the DELAY of then";
    FarMachine x = counter();
    x.set(DELAY, 12);
    x.hours(1);
    x.set(DELAY, 4);
    x.hours(3);
    x.set(DELAY, 0);
    // SENT in HOUR 0 and 3, HEARD at 12 and 7
    x.word(0, SET + 1);
    due("heard(0), HOUR 4", x.heard(0), 1001);
    x.hours(2);
    due("heard(0), HOUR 6", x.heard(0), 1001);
    x.hours(1);
    due("heard(0), HOUR 7", x.heard(0), 2);
    due("heard(1), HOUR 7", x.heard(1), 1001);
    x.hours(4);
    due("heard(1), HOUR 11", x.heard(1), 1001);
    x.hours(1);
    due("heard(0), HOUR 12: in order as SENT", x.heard(0), 1);
    due("heard(1), HOUR 12", x.heard(1), 2);
    due("heard(2), HOUR 12", x.heard(2), 1001);
    due("sent()", x.sent(), 2);
  }

  private static void heardAtTheLastHour() {
    sentence = "It is HEARD as HOUR (2000 at most) is that in which it was SENT and DELAY";
    FarMachine x = talker();
    x.set(SILENCE, 999);
    x.hours(1990);
    x.box(0, TALKING, true);
    x.set(DISH, 0);
    words(x, 0, SEND + 5, SEND + 6, WAIT);
    x.set(NUMBER, 77);
    x.set(PLACE, 0);
    x.set(DELAY, 10);
    x.hours(2);
    due("sent()", x.sent(), 2);
    x.hours(7);
    due("heard(0), HOUR 1999", x.heard(0), 1001);
    x.hours(1);
    due("heard(0), HOUR 2000", x.heard(0), 77);
    // this one as HOUR is 2001
    due("heard(1), HOUR 2000", x.heard(1), 1001);
    x.hours(50);
    due("heard(1), HOUR 2000", x.heard(1), 1001);
    x.set(PLACE, 1);
    x.set(DISH, 0);
    x.set(DELAY, 0);
    x.hours(1);
    due("sent()", x.sent(), 3);
    due("heard(1), DELAY 0", x.heard(1), 1);
  }

  // ==== SUSPECTS, STATES, FITS

  private static void suspectBits() {
    sentence = "SUSPECTS: a WORD and a bit (0 .. 7) that may have gone over";
    int[] values = {0, 255, 90};
    for (int v : values) {
      for (int bit = 0; bit < 8; bit++) {
        FarMachine x = talker();
        x.word(47, v);
        x.word(0, SEND + 31);
        due("suspect(47, " + bit + ")", x.suspect(47, bit), 0);
        x.start();
        x.put(v - 128);
        due("fits(0, 1)", x.fits(0, 1), 1);
        due("fits(1, 1)", x.fits(1, 1), 0);
        x.unput();
        x.put((v ^ 1 << bit) - 128);
        due("fits(0, 1)", x.fits(0, 1), 0);
        due("fits(1, 1)", x.fits(1, 1), 1);
        due("wordOf(47)", x.wordOf(47), v);
      }
    }
  }

  private static void suspectsOfOneWord() {
    sentence = "SUSPECTS (8 at most); STATES are sets of SUSPECTS (bits)";
    FarMachine x = talker();
    x.word(0, SEND + 8);
    x.start();
    for (int i = 0; i < 8; i++) {
      due("suspect(24, " + (7 - i) + ")", x.suspect(24, 7 - i), i);
    }
    due("suspect, the ninth", x.suspect(25, 0), -6);
    int[] states = {0, 1, 2, 64, 128, 5, 254, 255};
    int[] words = {0, 128, 64, 2, 1, 160, 127, 255};
    for (int i = 0; i < states.length; i++) {
      x.unput();
      x.put(words[i] - 128);
      due("fits(" + states[i] + ", 1)", x.fits(states[i], 1), 1);
      due("FITTING", x.fitting(1, 0), 1);
      due("LEAST", x.fitting(1, 3), states[i]);
    }
    sentence = "SUSPECTS count in THE START, also those told behind it";
    due("unlike(-1)", x.unlike(-1), 0);
  }

  private static void statesOfNone() {
    sentence = "STATES without SUSPECTS: none has gone over";
    FarMachine x = talker();
    x.start();
    due("fits(0, 1)", x.fits(0, 1), 1);
    due("fits(1, 1)", x.fits(1, 1), -1);
    due("FITTING", x.fitting(1, 0), 1);
    for (int what = 1; what < 4; what++) {
      due("fitting(1, " + what + ")", x.fitting(1, what), 0);
    }
  }

  private static void statesOfAll() {
    sentence = "STATES are sets of SUSPECTS: as many as there are sets";
    FarMachine x = talker();
    x.start();
    for (int many = 1; many <= 8; many++) {
      x.suspect(40, many - 1);
      int last = (1 << many) - 1;
      due("fits(" + last + ", 1)", x.fits(last, 1), 1);
      due("fits(" + (last + 1) + ", 1)", x.fits(last + 1, 1), -1);
      due("broken(" + last + ", 1)", x.broken(last, 1), -9);
      due("broken(" + (last + 1) + ", 1)", x.broken(last + 1, 1), -1);
      due("FITTING", x.fitting(1, 0), last + 1);
      due("MAY", x.fitting(1, 2), last);
      due("SURE", x.fitting(1, 1), 0);
    }
  }

  /** THE START is told in HOUR 0, and behind it nearly all becomes another. */
  private static FarMachine startedThen() {
    FarMachine x = talker();
    int[][] then = {{PLACE, 5}, {NUMBER, -9}, {HEAT, 33}, {FUEL, 7}, {DISH, -4}, {REST, 3}};
    int[][] later = {{PLACE, 0}, {NUMBER, 99}, {HEAT, 99}, {FUEL, 0}, {DISH, 20}, {REST, 31}};
    for (int[] t : then) {
      x.set(t[0], t[1]);
    }
    x.word(5, SET + 30);
    due("start()", x.start(), 0);
    for (int[] t : later) {
      x.set(t[0], t[1]);
    }
    x.word(5, SET + 29);
    x.box(0, BROKEN, false);
    x.box(1, TURNING, true);
    x.hours(2000);
    return x;
  }

  private static void startAsThen() {
    sentence = "THE START (told: THE MACHINE as it is then, with all that is under way)";
    FarMachine x = startedThen();
    rule(x, "h=34&f=7&d=-4&a=-9&p=5&w=7");
    due("broken(0, 1)", x.broken(0, 1), 0);
    x = startedThen();
    rule(x, "a=30&p=6&o=2&h=37");
    rule(x, "t=4");
    due("broken(0, 3)", x.broken(0, 3), -9);
    due("broken(0, 4)", x.broken(0, 4), 300);
    x = startedThen();
    rule(x, "t=4");
    due("broken(0, 3)", x.broken(0, 3), -9);
    due("broken(0, 4): HOUR of then", x.broken(0, 4), 300);
    startWithTold();
    startWithCommands();
  }

  private static void startWithTold() {
    sentence = "THE START has COLD, DRIFT and SILENCE of then";
    int[] whats = {COLD, DRIFT, SILENCE};
    int[] tight = {99, 1, 1};
    int[] loose = {0, 99, 999};
    for (int i = 0; i < 3; i++) {
      for (int tightThen = 0; tightThen < 2; tightThen++) {
        FarMachine x = new FarMachine();
        x.set(COLD, 0);
        x.set(DRIFT, 99);
        x.set(SILENCE, 999);
        x.box(0, BOX, true);
        x.hours(2);
        x.set(whats[i], tightThen == 1 ? tight[i] : loose[i]);
        x.start();
        x.set(whats[i], tightThen == 1 ? loose[i] : tight[i]);
        rule(x, i == 0 ? "o=0" : i == 1 ? "d=1" : "p=40");
        due("broken(0, 1) by " + whats[i], x.broken(0, 1), tightThen == 1 ? 0 : -9);
      }
    }
    FarMachine x = new FarMachine();
    x.set(SILENCE, 10);
    x.hours(7);
    x.start();
    rule(x, "p=40");
    sentence = "THE START has the HOURS of (5) that were counted then";
    due("broken(0, 2)", x.broken(0, 2), -9);
    due("broken(0, 3)", x.broken(0, 3), 200);
    x.hours(3);
    due("broken(0, 3)", x.broken(0, 3), 200);
  }

  private static void startWithCommands() {
    sentence = "THE START: with all that is under way then, and nothing that goes later";
    FarMachine x = new FarMachine();
    rule(x, "p=30");
    rule(x, "p=31");
    x.set(DELAY, 5);
    x.command(1, 0, 30);
    x.hours(2);
    x.start();
    x.set(DELAY, 0);
    x.command(1, 0, 31);
    due("broken(0, 3)", x.broken(0, 3), -9);
    due("broken(0, 4)", x.broken(0, 4), 300);
    x.hours(1);
    due("count(1)", x.count(1), 1);
    due("broken(0, 60)", x.broken(0, 60), 300);
    x.hours(50);
    due("count(1)", x.count(1), 0);
    due("broken(0, 60)", x.broken(0, 60), 300);
    state(x, PLACE, 30);
  }

  private static void triedHours() {
    sentence = "TRIED: for n HOURS (1 .. 60)";
    FarMachine x = talker();
    x.set(SILENCE, 999);
    x.set(REST, 30);
    x.word(0, WAIT + 29);
    x.word(1, SEND + 5);
    x.set(NUMBER, 9);
    // HOURS 0 .. 29 rest, 30 WAIT, 31 .. 59 rest, SENT in HOUR 60
    x.start();
    due("fits(0, 60)", x.fits(0, 60), 1);
    x.hours(1);
    x.start();
    due("fits(0, 59)", x.fits(0, 59), 1);
    due("fits(0, 60)", x.fits(0, 60), 0);
    x.put(9);
    due("fits(0, 59)", x.fits(0, 59), 0);
    due("fits(0, 60)", x.fits(0, 60), 1);
    x.hours(59);
    x.start();
    due("fits(0, 1)", x.fits(0, 1), 1);
    x.unput();
    due("fits(0, 1)", x.fits(0, 1), 0);
  }

  private static void fitsEmpty() {
    sentence = "FITS: THE ROW that is empty";
    FarMachine x = talker();
    words(x, 0, SET + 3, SEND + 5, WAIT);
    x.start();
    due("fits(0, 1)", x.fits(0, 1), 1);
    due("fits(0, 2)", x.fits(0, 2), 0);
    x.put(3);
    due("fits(0, 1)", x.fits(0, 1), 0);
    due("fits(0, 2)", x.fits(0, 2), 1);
    x.unput();
    due("fits(0, 1)", x.fits(0, 1), 1);
    due("fits(0, 2)", x.fits(0, 2), 0);
  }

  private static void fitsRow(FarMachine x, int want, int... row) {
    x.unput();
    for (int v : row) {
      x.put(v);
    }
    due("fits(0, 9)", x.fits(0, 9), want);
  }

  private static void fitsJust() {
    sentence = "FITS: a STATE, if what is SENT in these n HOURS is, in order, just THE ROW";
    FarMachine x = talker();
    words(x, 0, SEND + 8, SEND + 9, SEND + 10, WAIT);
    words(x, 24, 0, 255, 128);
    x.start();
    fitsRow(x, 1, -128, 127, 0);
    fitsRow(x, 0, 127, -128, 0);
    fitsRow(x, 0, 0, 127, -128);
    fitsRow(x, 0, -128, 127);
    fitsRow(x, 0, -128, 127, 0, 0);
    fitsRow(x, 0, -128, 127, 1);
    fitsRow(x, 0, -127, 127, 0);
    fitsRow(x, 0, 127, 0);
    fitsRow(x, 0);
  }

  /** It SENDs in each HOUR: all its WORDS SEND how many BOXES are ON, which is 2. */
  private static FarMachine chatter() {
    FarMachine x = talker();
    for (int at = 0; at < 48; at++) {
      x.word(at, SEND + 4);
    }
    return x;
  }

  private static void fitsFull() {
    sentence = "FITS: THE ROW (bytes; 40 at most)";
    FarMachine x = chatter();
    x.start();
    for (int i = 1; i <= 40; i++) {
      due("put(2)", x.put(2), i);
      due("fits(0, " + i + ")", x.fits(0, i), 1);
    }
    due("fits(0, 39)", x.fits(0, 39), 0);
    due("fits(0, 41)", x.fits(0, 41), 0);
    due("fits(0, 60)", x.fits(0, 60), 0);
    due("put, the 41.", x.put(2), -6);
    due("fits(0, 40)", x.fits(0, 40), 1);
  }

  private static void fitsLost() {
    sentence = "FITS: what is SENT (kept or lost)";
    FarMachine x = chatter();
    x.hours(59);
    due("start()", x.start(), 59);
    for (int i = 0; i < 3; i++) {
      x.put(2);
    }
    due("fits(0, 3)", x.fits(0, 3), 1);
    due("fits(0, 1)", x.fits(0, 1), 0);
    due("sent()", x.sent(), 59);
    x.hours(9);
    due("sent()", x.sent(), 60);
    x.start();
    due("fits(0, 3)", x.fits(0, 3), 1);
    due("fits(0, 2)", x.fits(0, 2), 0);
    due("sent()", x.sent(), 60);
    sentence = "PARTS: what is SENT (kept or lost)";
    x.suspect(30, 0);
    x.ask(1, 0, 30);
    due("parts(0, 3, 1)", x.parts(0, 3, 1), 2);
  }

  /** WORD 0 SENDs WORD 24 of which 0, 1 and 2 are SUSPECTS: 0 .. 7 less 128. */
  private static FarMachine eight() {
    FarMachine x = talker();
    x.word(0, SEND + 8);
    for (int bit = 0; bit < 3; bit++) {
      x.suspect(24, bit);
    }
    x.start();
    return x;
  }

  private static void fitting(FarMachine x, int n, int... want) {
    for (int what = 0; what < 4; what++) {
      due("fitting(" + n + ", " + what + ")", x.fitting(n, what), want[what]);
    }
  }

  private static void fittingNone() {
    sentence = "FITTING: none FITS";
    FarMachine x = eight();
    x.put(-120);
    fitting(x, 1, 0, -9, -9, -9);
    x.unput();
    fitting(x, 1, 0, -9, -9, -9);
    due("count(13): it is no REFUSAL", x.count(13), 0);
    due("count(11): it is no REFUSAL", x.count(11), 0);
  }

  private static void fittingAll() {
    sentence = "SURE: SUSPECTS in all of them, MAY: in some";
    FarMachine x = eight();
    x.word(0, SET);
    x.start();
    fitting(x, 1, 8, 0, 7, 0);
    x = talker();
    // it JUMPs to 4, or to 6 by SUSPECT 1, and SENDs PLACE, but not at 6 by SUSPECT 2
    words(x, 0, JUMP + 4);
    words(x, 4, SEND + 6);
    words(x, 6, SEND + 6);
    x.set(NUMBER, 1);
    x.suspect(40, 0);
    x.suspect(0, 1);
    x.suspect(6, 7);
    x.start();
    x.put(6);
    // 2 is SURE, 4 is in none, 1 is in some
    fitting(x, 2, 2, 2, 3, 2);
    x.unput();
    x.put(4);
    // SUSPECT 1 is in none
    fitting(x, 2, 4, 0, 5, 0);
    x.unput();
    // 6 is in all
    fitting(x, 2, 2, 6, 7, 6);
  }

  private static void fittingOne() {
    sentence = "FITTING: each STATE alone";
    FarMachine x = eight();
    for (int state = 0; state < 8; state++) {
      x.unput();
      x.put(state - 128);
      fitting(x, 1, 1, state, state, state);
    }
  }

  private static void least() {
    sentence = "LEAST: the one with the fewest, of several the least";
    // NUMBER is 1 by SUSPECT 0, 2 by SUSPECT 1, 3 by both; FUEL is SENT by SUSPECT 2
    FarMachine x = talker();
    words(x, 0, SET + 0, SEND + 5);
    x.suspect(0, 0);
    x.suspect(0, 1);
    x.suspect(1, 2);
    x.start();
    x.put(1);
    fitting(x, 2, 1, 1, 1, 1);
    x.unput();
    x.put(3);
    fitting(x, 2, 1, 3, 3, 3);
    // SUSPECT 0 does nothing; POWER, which is 7, is SENT by SUSPECT 3
    x = talker();
    words(x, 0, SET + 0, SEND + 5);
    x.suspect(40, 0);
    x.suspect(0, 0);
    x.suspect(0, 1);
    x.suspect(1, 1);
    x.start();
    x.put(3);
    fitting(x, 2, 2, 6, 7, 6);
    x.unput();
    x.put(7);
    fitting(x, 2, 8, 8, 15, 8);
    // 7 is NUMBER by SUSPECTS 0 and 1 (3), or POWER by SUSPECT 2 (4): 4 has fewer, 3 is less
    x = talker();
    words(x, 0, SET + 4, SEND + 5);
    x.suspect(0, 0);
    x.suspect(0, 1);
    x.suspect(1, 1);
    x.start();
    x.put(7);
    fitting(x, 2, 5, 0, 7, 4);
    // NUMBER is 2 by one of SUSPECTS 1, 2 and 3: one each, 2 is the least
    x = talker();
    words(x, 0, SET + 1, ADD + 16, ADD + 16, ADD + 16, SEND + 5);
    x.suspect(40, 7);
    x.suspect(1, 0);
    x.suspect(2, 0);
    x.suspect(3, 0);
    x.start();
    x.put(2);
    fitting(x, 5, 6, 0, 15, 2);
  }

  // ==== RULES

  private static void ruleDue(String text, int want) {
    FarMachine x = new FarMachine();
    due("rule() of \"" + text + "\"", rule(x, text), want);
    due("count(3)", x.count(3), want < 0 ? 0 : 1);
    due("count(7)", x.count(7), 0);
    int refused = 0;
    for (int what = 11; what < 17; what++) {
      refused += x.count(what);
    }
    due("REFUSALS: nothing is counted", refused, 0);
  }

  private static void ruleSizes() {
    sentence = "RULES (10 at most) are TEXTS (30 bytes at most)";
    ruleDue("", -20);
    ruleDue("h<f", 0);
    ruleDue("h<f&h<d&h<a&h<p&h<t&h<w&!!!h<o", 0);
    ruleDue("h<f&h<d&h<a&h<p&h<t&h<w&!!!!h<", -50);
    ruleDue("h<f&h<d&h<a&h<p&h<t&h<w&!!h<o", 0);
    ruleDue("h<f&h<d&h<a&h<p&h<t&h<w&!!h<10", 0);
    ruleDue("h<f&h<d&h<a&h<p&h<t&h<w&!!h<1&", -50);
    ruleDue("h<f&h<d&h<a&h<p&h<t&h<w&!!h<1!", -49);
    ruleDue("-999<-999&-999<-999&-999<-999", 0);
    ruleDue("-999<-999&-999<-999&-999<-9999", -49);
    ruleDue("!!!!!!!!!!!!!!!!!!!!!!!!!!!!!!", -50);
    FarMachine x = new FarMachine();
    for (int i = 0; i < 10; i++) {
      due("rule " + i, rule(x, "h=" + (45 + i)), i);
    }
    due("rule, the eleventh", rule(x, "h=50"), -6);
    for (int i = 0; i < 10; i++) {
      due("holds(" + i + ")", x.holds(i), i == 5 ? 1 : 0);
    }
    due("holds(10)", x.holds(10), -1);
  }

  /** Behind each beginning all 256 bytes: those that can stand there, and of these what makes it whole. */
  private static void ruleBytes() {
    sentence = "FAULT: the place of the first byte that can not stand (the end, if something lacks)";
    String digits = "0123456789";
    String units = digits + "hfdaptwo";
    String unit = "-" + units;
    String signs = "<=>";
    String[][] all = {
      {"", "!" + unit, ""}, {"!", "!" + unit, ""}, {"!!", "!" + unit, ""}, {"h", signs, ""}, {"-", digits, ""},
      {"-1", signs + digits, ""}, {"-12", signs + digits, ""}, {"-123", signs, ""}, {"1", signs + digits, ""},
      {"12", signs + digits, ""}, {"123", signs, ""}, {"h<", unit, units}, {"h=", unit, units}, {"h>", unit, units},
      {"h<h", "&", ""}, {"h<-", digits, digits}, {"h<1", "&" + digits, digits}, {"h<12", "&" + digits, digits},
      {"h<123", "&", ""}, {"h<-1", "&" + digits, digits}, {"h<-12", "&" + digits, digits}, {"h<-123", "&", ""},
      {"h<1&", "!" + unit, ""}, {"h<1&!", "!" + unit, ""}, {"h<1&o", signs, ""}, {"h<1&o=", unit, units},
      {"h<1&o=o", "&", ""},
    };
    for (String[] one : all) {
      int at = one[0].length();
      for (int b = 0; b < 256; b++) {
        FarMachine x = new FarMachine();
        feed(x, one[0]);
        x.feed(1, b);
        boolean stands = one[1].indexOf(b) >= 0;
        boolean whole = one[2].indexOf(b) >= 0;
        due("rule() of \"" + one[0] + "\" and " + b, x.rule(), whole ? 0 : stands ? -20 - at - 1 : -20 - at);
      }
    }
  }

  private static void rulePrefixes() {
    sentence = "FAULT: (the end, if something lacks)";
    String text = "!h<-12&!!999=a&p>-0";
    // the lengths at which a RULE may end
    String ends = " 5 6 14 19 ";
    for (int many = 0; many <= text.length(); many++) {
      ruleDue(text.substring(0, many), ends.contains(" " + many + " ") ? 0 : -20 - many);
    }
    sentence = "FAULT: the first byte that can not stand, whatever comes behind it";
    ruleDue("x<1&h<", -20);
    ruleDue("h<1 &h<1", -23);
    ruleDue("h<1&h<1x&y", -27);
    ruleDue("h<1&x<1&y", -24);
    ruleDue("hh<1", -21);
    ruleDue("h<<1", -22);
    ruleDue("1234<h", -23);
    ruleDue("h<-x", -23);
  }

  private static void holding(String text, int want) {
    FarMachine x = new FarMachine();
    x.set(NUMBER, -5);
    due("rule() of \"" + text + "\"", rule(x, text), 0);
    due("holds(0) of \"" + text + "\"", x.holds(0), want);
  }

  private static void ruleBehindFault() {
    sentence = "rule(): if it has a FAULT, nothing of it stays";
    FarMachine x = new FarMachine();
    due("rule() of a FAULT", rule(x, "h=0&f=0&d=9&x"), -32);
    due("holds(0)", x.holds(0), -1);
    due("rule() behind it", rule(x, "h=50"), 0);
    due("holds(0)", x.holds(0), 1);
    due("rule() of a FAULT", rule(x, "h=0&f=0&d=0&"), -32);
    due("rule() behind it", rule(x, "f=60&h=50"), 1);
    due("holds(1)", x.holds(1), 1);
    due("holds(0)", x.holds(0), 1);
    sentence = "RULES: each for itself, also ahead of and behind one of seven TESTS";
    due("rule() of seven", rule(x, "h=h&h=h&h=h&h=h&h=h&h=h&h=h"), 2);
    due("rule() behind it", rule(x, "h=0"), 3);
    due("rule() of seven", rule(x, "f=f&f=f&f=f&f=f&f=f&f=f&f=f"), 4);
    int[] want = {1, 1, 1, 0, 1};
    for (int i = 0; i < want.length; i++) {
      due("holds(" + i + ")", x.holds(i), want[i]);
    }
  }

  private static void feedEdges() {
    sentence = "feed(): n (1 .. 8) bytes come, the lowest first";
    for (int n = 1; n <= 8; n++) {
      // '1', '<', 'h', '&' and so on, the others of 0x7A can stand nowhere
      String text = "1<h&2<h&";
      long bytes = 0;
      for (int i = 0; i < 8; i++) {
        bytes |= (i < n ? (long) text.charAt(i) : 0x7AL) << (8 * i);
      }
      FarMachine x = new FarMachine();
      due("feed(" + n + ", ..)", x.feed(n, bytes), n);
      due("count(7)", x.count(7), n);
      due("rule()", x.rule(), n == 3 || n == 7 ? 0 : -20 - n);
      due("count(7)", x.count(7), 0);
    }
    FarMachine x = new FarMachine();
    // a sign that is the byte 8 alone, and bytes of 128 and above that are no signs
    due("feed(8, ..)", x.feed(8, 0x683C3026683C3026L), 8);
    due("rule(): '&' is the lowest", x.rule(), -20);
    due("feed(3, ..)", x.feed(3, 0xFFFFFFFFFF683C30L), 3);
    due("rule()", x.rule(), 0);
    due("feed(8, ..)", x.feed(8, 0xB03D68263D303D68L), 8);
    due("rule(): '=' is no NUMBER", x.rule(), -23);
    due("feed(8, ..)", x.feed(8, 0xB03D682630303D68L), 8);
    due("rule(): 176 is no '0'", x.rule(), -27);
  }

  private static void ruleNumbers() {
    sentence = "a NUMBER (1 to 3 digits, perhaps \"-\" ahead)";
    String[] texts = {"0=0", "00=0", "000=0", "-0=0", "-000=0", "7=07", "7=007", "99<100", "998<999", "-999<-998", "-100<-99",
        "-1<0", "0<1", "a=-5", "a=-05", "a=-005", "a>-6", "a<-4", "999>h", "-999<h"};
    for (String text : texts) {
      holding(text, 1);
    }
    String[] never = {"0=1", "-1=1", "999<998", "-999>-998", "a=5", "100=10", "010=001"};
    for (String text : never) {
      holding(text, 0);
    }
  }

  private static void ruleSigns() {
    sentence = "TEST: UNIT, one of \"<\", \"=\", \">\", UNIT";
    for (int v = 49; v <= 51; v++) {
      holding("h<" + v, v > 50 ? 1 : 0);
      holding("h=" + v, v == 50 ? 1 : 0);
      holding("h>" + v, v < 50 ? 1 : 0);
      holding(v + "<h", v < 50 ? 1 : 0);
      holding(v + "=h", v == 50 ? 1 : 0);
      holding(v + ">h", v > 50 ? 1 : 0);
    }
    holding("h<h", 0);
    holding("h=h", 1);
    holding("h>h", 0);
  }

  private static void letter(FarMachine x, int rule, String text) {
    due("rule() of \"" + text + "\"", rule(x, text), rule);
    due("holds(" + rule + ") of \"" + text + "\"", x.holds(rule), 1);
  }

  private static void ruleLetters() {
    sentence = "a letter by the MACHINE: h HEAT, f FUEL, d DISH, a NUMBER, p PLACE, t HOUR modulo 24, w POWER, o how many ON";
    FarMachine x = new FarMachine();
    letter(x, 0, "h=50&f=60&d=0&a=0&p=0&t=0&w=0");
    letter(x, 1, "o=0");
    int[][] told = {{HEAT, 99}, {FUEL, 99}, {DISH, -20}, {NUMBER, -128}, {PLACE, 47}};
    for (int[] t : told) {
      x.set(t[0], t[1]);
    }
    for (int box = 0; box < 8; box++) {
      x.box(box, TURNING, true);
    }
    letter(x, 2, "h=99&f=99&d=-20&a=-128&p=47");
    letter(x, 3, "w=40&o=8");
    x.set(DISH, 20);
    x.set(NUMBER, 127);
    letter(x, 4, "d=20&a=127");
    x.hours(23);
    letter(x, 5, "t=23");
    x.hours(1);
    due("holds(5)", x.holds(5), 0);
    letter(x, 6, "t=0");
    x.hours(2000);
    letter(x, 7, "t=8");
  }

  private static void ruleNots() {
    sentence = "AND: TEST { \"&\" TEST }; TEST: \"!\" TEST or UNIT";
    String not = "";
    for (int many = 0; many <= 27; many++) {
      holding(not + "h=h", many % 2 == 0 ? 1 : 0);
      holding(not + "h<h", many % 2);
      not = not + "!";
    }
    // a "!" is of one TEST alone
    holding("!h<h&h<h", 0);
    holding("h<h&!h<h", 0);
    holding("!h<h&h=h", 1);
    holding("!h=h&h<h", 0);
    holding("!h=h&!h=h", 0);
    holding("!h<h&!h<h", 1);
    // all of seven must be so
    for (int off = 0; off <= 7; off++) {
      StringBuilder text = new StringBuilder();
      for (int i = 0; i < 7; i++) {
        text.append(i == 0 ? "" : "&").append(i == off ? "h<h" : "h=h");
      }
      holding(text.toString(), off == 7 ? 1 : 0);
    }
  }

  private static void brokenBehind() {
    sentence = "BROKEN: a RULE that holds behind some HOUR";
    FarMachine x = new FarMachine();
    rule(x, "h=50");
    rule(x, "t=23&h=4");
    rule(x, "t=0");
    x.start();
    due("broken(0, 22)", x.broken(0, 22), -9);
    due("broken(0, 23)", x.broken(0, 23), 2201);
    due("broken(0, 60)", x.broken(0, 60), 2201);
    x.hours(23);
    x.start();
    due("broken(0, 1)", x.broken(0, 1), 2);
    due("broken(0, 60)", x.broken(0, 60), 2);
    x.hours(1);
    x.start();
    due("broken(0, 23)", x.broken(0, 23), -9);
    due("broken(0, 24)", x.broken(0, 24), 2302);
    x = new FarMachine();
    x.set(DRIFT, 99);
    x.set(REST, 31);
    x.start();
    rule(x, "t=12");
    rule(x, "t=11&p=1");
    due("broken(0, 60)", x.broken(0, 60), 1100);
    rule(x, "h=0&t<24");
    due("broken(0, 60)", x.broken(0, 60), 1100);
    x = new FarMachine();
    x.set(REST, 31);
    x.word(0, WAIT + 27);
    x.word(1, SET + 1);
    x.start();
    rule(x, "a=1");
    due("broken(0, 59)", x.broken(0, 59), -9);
    due("broken(0, 60)", x.broken(0, 60), 5900);
  }

  private static void brokenOrder() {
    sentence = "broken(): the first RULE (by HOURS, then by numbers)";
    FarMachine x = new FarMachine();
    x.start();
    for (int i = 0; i < 9; i++) {
      rule(x, "t=" + (9 - i));
    }
    due("broken(0, 60)", x.broken(0, 60), 8);
    rule(x, "t=1");
    due("broken(0, 60)", x.broken(0, 60), 8);
    x = new FarMachine();
    x.start();
    for (int i = 0; i < 9; i++) {
      rule(x, "t=9");
    }
    due("broken(0, 60)", x.broken(0, 60), 800);
    rule(x, "t=8");
    due("broken(0, 60)", x.broken(0, 60), 709);
  }

  // ==== ASKS

  private static void askMoment() {
    sentence = "ASKS come at once behind the n HOURS of TRIED (ahead of (1) of the next one)";
    FarMachine x = new FarMachine();
    words(x, 0, SET + 1, SET + 2, SET + 3, WAIT);
    words(x, 20, SET + 9, WAIT);
    x.start();
    x.ask(1, 48, 20);
    rule(x, "a=2");
    rule(x, "p=2");
    // behind one HOUR: SET 2 is not done any more; behind two it was done, but not in the m HOURS
    due("safe(0, 1, 60)", x.safe(0, 1, 60), 1);
    due("safe(0, 2, 1)", x.safe(0, 2, 1), 1);
    due("broken(0, 60)", x.broken(0, 60), 100);
    rule(x, "a=9");
    due("safe(0, 1, 1): done in the first of the m HOURS", x.safe(0, 1, 1), 0);
    // what comes in (1) of the next HOUR comes behind the ASK
    x = new FarMachine();
    x.set(DELAY, 1);
    x.command(0, 0, SET + 5);
    x.command(1, 0, 0);
    x.start();
    x.ask(0, 0, SET + 6);
    x.ask(1, 0, 30);
    rule(x, "a=6");
    rule(x, "p=30");
    due("safe(0, 1, 1)", x.safe(0, 1, 1), 1);
    due("safe(1, 1, 1)", x.safe(1, 1, 1), 1);
    rule(x, "a=5");
    due("safe(0, 1, 1)", x.safe(0, 1, 1), 0);
    due("safe(1, 1, 1)", x.safe(1, 1, 1), 0);
    due("safe(0, 2, 1): SET 6 is at 0, PLACE is 1", x.safe(0, 2, 1), 0);
    // DELAY counts not
    x = new FarMachine();
    x.set(DELAY, 20);
    x.start();
    x.ask(1, 0, 30);
    rule(x, "p=30");
    due("safe(0, 60, 1)", x.safe(0, 60, 1), 0);
    due("count(1)", x.count(1), 0);
  }

  private static void askSilence() {
    sentence = "ASKS: the next HOUR counts by itself in (5)";
    for (int kind = 0; kind < 3; kind++) {
      FarMachine x = new FarMachine();
      x.set(SILENCE, 10);
      x.set(DELAY, 5);
      x.start();
      x.ask(kind, 7, 7);
      rule(x, "p=40");
      due("safe(0, 9, 1)", x.safe(0, 9, 1), 0);
      due("safe(0, 8, 1)", x.safe(0, 8, 1), 1);
      due("safe(0, 8, 2)", x.safe(0, 8, 2), 0);
      // something comes in the next HOUR itself
      x.command(2, 0, 0);
      x.start();
      due("safe(0, 5, 10)", x.safe(0, 5, 10), 1);
      due("safe(0, 5, 11)", x.safe(0, 5, 11), 0);
      due("safe(0, 6, 9)", x.safe(0, 6, 9), 1);
      due("safe(0, 6, 10)", x.safe(0, 6, 10), 0);
    }
  }

  private static void askEach() {
    sentence = "ASKS (6 at most) come, each for itself";
    FarMachine x = talker();
    words(x, 0, WAIT);
    for (int i = 0; i < 6; i++) {
      words(x, 10 + i, SET + 10 + i);
      due("ask " + i, x.ask(1, 0, 10 + i), i);
    }
    due("ask, the seventh", x.ask(1, 0, 16), -6);
    x.start();
    for (int i = 0; i < 6; i++) {
      rule(x, "a=" + (10 + i));
      for (int ask = 0; ask < 6; ask++) {
        due("safe(" + ask + ", 1, 1)", x.safe(ask, 1, 1), ask <= i ? 0 : 1);
      }
      due("best(1, 1)", x.best(1, 1), i < 5 ? i + 1 : -9);
    }
  }

  private static void safeEdges() {
    sentence = "SAFE: a RULE is BROKEN in m HOURS more (1 .. 60)";
    FarMachine x = new FarMachine();
    x.set(REST, 31);
    words(x, 0, WAIT + 31, WAIT + 31, SET + 4);
    x.start();
    x.ask(2, 0, 0);
    rule(x, "a=4");
    // HOURS 0 .. 30 rest, 31 WAIT, 32 .. 62 rest, 63 WAIT, 64 .. 94 rest, SET in HOUR 95
    due("safe(0, 36, 59)", x.safe(0, 36, 59), 1);
    due("safe(0, 36, 60)", x.safe(0, 36, 60), 0);
    due("safe(0, 35, 60)", x.safe(0, 35, 60), 1);
    due("safe(0, 60, 35)", x.safe(0, 60, 35), 1);
    due("safe(0, 60, 36)", x.safe(0, 60, 36), 0);
    sentence = "SAFE: what holds behind the last of the n HOURS is not in the m HOURS";
    x = new FarMachine();
    x.start();
    x.ask(2, 0, 0);
    rule(x, "t=7");
    due("safe(0, 7, 23)", x.safe(0, 7, 23), 1);
    due("safe(0, 7, 24)", x.safe(0, 7, 24), 0);
    due("safe(0, 6, 1)", x.safe(0, 6, 1), 0);
    due("safe(0, 5, 1)", x.safe(0, 5, 1), 1);
  }

  private static void safeStates() {
    sentence = "SAFE: if in no STATE that FITS a RULE is BROKEN";
    FarMachine x = eight();
    words(x, 10, FEEL + 8, SET + 1, WAIT);
    x.start();
    x.ask(1, 0, 10);
    rule(x, "a=-125");
    for (int state = 0; state < 8; state++) {
      x.unput();
      x.put(state - 128);
      due("safe(0, 1, 60) of " + state, x.safe(0, 1, 60), state == 3 ? 0 : 1);
    }
    x = eight();
    x.word(0, SET);
    words(x, 10, FEEL + 8, SET + 1, WAIT);
    x.start();
    x.ask(1, 0, 10);
    due("safe(0, 1, 1)", x.safe(0, 1, 1), 1);
    rule(x, "a=-120");
    due("safe(0, 1, 1): in no STATE", x.safe(0, 1, 1), 1);
    rule(x, "a=-121");
    due("safe(0, 1, 1): in the last STATE", x.safe(0, 1, 1), 0);
    x = eight();
    x.word(0, SET);
    words(x, 10, FEEL + 8, SET + 1, WAIT);
    x.start();
    x.ask(1, 0, 10);
    rule(x, "a=-128");
    due("safe(0, 1, 1): in the first STATE", x.safe(0, 1, 1), 0);
  }

  private static void partsEdges() {
    sentence = "PARTS: into how many unlike rows of what is SENT in these m HOURS they fall";
    FarMachine x = talker();
    words(x, 10, SEND + 8, SEND + 9, WAIT);
    x.start();
    x.ask(1, 0, 10);
    x.ask(2, 0, 0);
    for (int bit = 0; bit < 8; bit++) {
      due("parts(0, 1, 1)", x.parts(0, 1, 1), 1 << Math.min(bit, 4));
      due("parts(0, 1, 2)", x.parts(0, 1, 2), 1 << bit);
      due("parts(1, 1, 60): nothing is SENT", x.parts(1, 1, 60), 1);
      x.suspect(bit < 4 ? 24 : 25, bit % 4);
    }
    due("parts(0, 1, 1)", x.parts(0, 1, 1), 16);
    due("parts(0, 1, 2)", x.parts(0, 1, 2), 256);
    due("parts(0, 60, 60)", x.parts(0, 60, 60), 256);
    sentence = "PARTS: rows that are unlike in the first byte, in how many they have, in the last byte";
    x = chatter();
    x.set(REST, 31);
    // by SUSPECT 0 WORD 0 SENDs NUMBER, by SUSPECT 1 WORD 11, in the twelfth HOUR, SENDs nothing
    x.suspect(0, 0);
    x.suspect(11, 7);
    x.start();
    x.ask(1, 0, 0);
    due("parts(0, 1, 11)", x.parts(0, 1, 11), 2);
    due("parts(0, 1, 12)", x.parts(0, 1, 12), 4);
    due("parts(0, 1, 60)", x.parts(0, 1, 60), 4);
    for (int last = 49; last <= 60; last++) {
      // WORD 23 comes in this HOUR and 48 ahead of it: there HEAT is as FUEL, which SUSPECT 0 SENDs
      x = chatter();
      x.box(1, SPARE, true);
      x.box(2, FEELING, true);
      x.set(COLD, 0);
      x.set(HEAT, 60 + last - 48);
      x.set(REST, 31);
      x.word(23, SEND + 0);
      x.suspect(23, 0);
      x.start();
      x.ask(1, 0, 23 + 49 - last);
      due("parts(0, 1, " + (last - 1) + ")", x.parts(0, 1, last - 1), 1);
      due("parts(0, 1, " + last + ")", x.parts(0, 1, last), 2);
      due("parts(0, 1, 60)", x.parts(0, 1, 60), 2);
    }
    // an ASK writes over a SUSPECT; WORD 11 comes as the last of 48 behind PLACE 12
    x = chatter();
    x.set(REST, 31);
    x.suspect(11, 0);
    x.start();
    x.ask(0, 11, SEND + 4);
    x.ask(1, 0, 12);
    due("parts(0, 1, 60)", x.parts(0, 1, 60), 1);
    due("parts(1, 1, 47)", x.parts(1, 1, 47), 1);
    due("parts(1, 1, 48)", x.parts(1, 1, 48), 2);
  }

  private static void noneFits() {
    sentence = "SAFE, PARTS, BEST: none FITS, also if some did in a call ahead";
    FarMachine x = eight();
    x.ask(2, 0, 0);
    x.put(-128);
    due("safe(0, 1, 1)", x.safe(0, 1, 1), 1);
    due("parts(0, 1, 1)", x.parts(0, 1, 1), 1);
    due("best(1, 1)", x.best(1, 1), 0);
    x.put(0);
    due("safe(0, 1, 1)", x.safe(0, 1, 1), -3);
    due("parts(0, 1, 1)", x.parts(0, 1, 1), -3);
    due("best(1, 1)", x.best(1, 1), -3);
    due("FITTING", x.fitting(1, 0), 0);
    x.unput();
    x.put(-121);
    due("parts(0, 1, 1)", x.parts(0, 1, 1), 1);
    due("SURE", x.fitting(1, 1), 7);
    due("safe(0, 1, 1)", x.safe(0, 1, 1), 1);
  }

  private static void bestEdges() {
    sentence = "BEST: the SAFE one with the most PARTS, of several the first; -9 none is SAFE";
    FarMachine x = talker();
    words(x, 10, SEND + 8, SEND + 9, SET + 5, WAIT);
    words(x, 20, SEND + 9, SEND + 8, SET + 6, WAIT);
    words(x, 30, SEND + 8, WAIT);
    x.suspect(24, 0);
    x.suspect(24, 1);
    x.suspect(25, 0);
    x.start();
    due("best(1, 1): there is no ASK", x.best(1, 1), -9);
    x.ask(2, 0, 0);
    due("best(1, 60): one PART", x.best(1, 60), 0);
    x.ask(1, 0, 30);
    due("best(1, 60): four PARTS", x.best(1, 60), 1);
    x.ask(1, 0, 20);
    due("best(1, 1): two PARTS are fewer", x.best(1, 1), 1);
    due("best(1, 2): eight PARTS", x.best(1, 2), 2);
    x.ask(1, 0, 10);
    due("best(1, 2): of several the first", x.best(1, 2), 2);
    rule(x, "a=6");
    due("best(1, 2): not BROKEN in these", x.best(1, 2), 2);
    due("best(1, 3): the first is not SAFE", x.best(1, 3), 3);
    rule(x, "a=5");
    due("best(1, 3)", x.best(1, 3), 1);
    rule(x, "p=31");
    due("best(1, 3)", x.best(1, 3), 0);
    rule(x, "p=0");
    due("best(1, 3)", x.best(1, 3), -9);
    due("best(1, 1): four PARTS", x.best(1, 1), 3);
    due("count(13): it is no REFUSAL", x.count(13), 0);
  }

  // ==== HOLES, KEEP, WARM, AIM, UNLIKE

  private static FarMachine holes(int... sizes) {
    FarMachine x = new FarMachine();
    for (int i = 0; i < sizes.length; i++) {
      due("hole(0, " + sizes[i] + ")", x.hole(0, sizes[i]), i + 1);
    }
    return x;
  }

  private static void fewestEdges() {
    sentence = "A PROGRAM of k words (1 .. 40) is PUT IN; FEWEST: the least number of HOLES that take it all";
    FarMachine x = holes(40);
    due("fewest(1)", x.fewest(1), 1);
    due("fewest(40)", x.fewest(40), 1);
    x = holes(39);
    due("fewest(39)", x.fewest(39), 1);
    due("fewest(40)", x.fewest(40), -9);
    x = holes(1);
    due("fewest(1)", x.fewest(1), 1);
    due("fewest(2)", x.fewest(2), -9);
    x = holes(1, 48, 1);
    due("fewest(2)", x.fewest(2), 2);
    due("fewest(40)", x.fewest(40), 2);
    due("REFUSALS: -9 is none", x.count(16), 0);
  }

  private static void fewestJumps() {
    sentence = "pieces in HOLES, each but the last with one word more (to jump)";
    FarMachine x = holes(6, 6, 6, 6, 6, 6, 6, 6);
    for (int k = 1; k <= 40; k++) {
      // one takes 6, each more 5
      int many = k <= 6 ? 1 : (k - 6 + 4) / 5 + 1;
      due("fewest(" + k + ")", x.fewest(k), (1 << many) - 1);
    }
    x = holes(5, 5, 5, 5, 5, 5, 5, 5);
    due("fewest(33)", x.fewest(33), 255);
    due("fewest(34)", x.fewest(34), -9);
    x = holes(1, 1, 1, 1, 1, 1, 1, 1);
    due("fewest(1)", x.fewest(1), 1);
    due("fewest(2)", x.fewest(2), -9);
    x = holes(1, 2);
    due("fewest(1)", x.fewest(1), 1);
    due("fewest(2)", x.fewest(2), 2);
    due("fewest(3)", x.fewest(3), -9);
  }

  private static void fewestTies() {
    sentence = "FEWEST: of several sets the least as bits";
    FarMachine x = holes(3, 9, 4, 9, 4, 3, 9, 2);
    due("fewest(2)", x.fewest(2), 1);
    due("fewest(4)", x.fewest(4), 2);
    due("fewest(9)", x.fewest(9), 2);
    due("fewest(10)", x.fewest(10), 3);
    due("fewest(11)", x.fewest(11), 3);
    due("fewest(12)", x.fewest(12), 6);
    due("fewest(13)", x.fewest(13), 10);
    due("fewest(17)", x.fewest(17), 10);
    due("fewest(18)", x.fewest(18), 11);
    due("fewest(20)", x.fewest(20), 14);
    due("fewest(21)", x.fewest(21), 74);
    due("fewest(25)", x.fewest(25), 74);
    due("fewest(26)", x.fewest(26), 75);
  }

  private static void keepEdges() {
    sentence = "KEEP: the fewest of ON BOXES to be OFF so that POWER is no more than told";
    FarMachine x = new FarMachine();
    for (int power = 0; power < 100; power += 33) {
      due("keep(" + power + ") of none", x.keep(power), 0);
    }
    for (int box = 0; box < 8; box++) {
      x.box(box, TURNING, true);
    }
    due("keep(99)", x.keep(99), 0);
    for (int power = 0; power <= 40; power++) {
      due("keep(" + power + ")", x.keep(power), (1 << (8 - power / 5)) - 1);
    }
    state(x, ON, 255);
    for (int box = 0; box < 8; box++) {
      x.box(box, BROKEN, true);
    }
    due("keep(0) of BROKEN ones", x.keep(0), 0);
    x.box(7, SPARE, true);
    due("keep(2)", x.keep(2), 0);
    due("keep(1)", x.keep(1), 128);
    due("keep(0)", x.keep(0), 128);
    x.box(7, SPARE, false);
    due("keep(0): an OFF one takes none", x.keep(0), 0);
  }

  private static void keepTies() {
    sentence = "KEEP: of several sets the least as bits";
    FarMachine x = new FarMachine();
    int[] kinds = {FEELING, WARMING, BOX, WARMING, SPARE, LYING, TALKING, BROKEN};
    for (int box = 0; box < 8; box++) {
      x.box(box, kinds[box], box != 2);
    }
    // 2, 3, -, 3, 2, 2, 4 and 0: 16 in all
    int[] powers = {16, 15, 14, 13, 12, 11, 10, 9, 8, 7, 6, 5, 4, 3, 2, 1, 0};
    int[] want = {0, 1, 1, 2, 64, 3, 10, 66, 11, 67, 74, 75, 75, 91, 91, 123, 123};
    for (int i = 0; i < powers.length; i++) {
      due("keep(" + powers[i] + ")", x.keep(powers[i]), want[i]);
    }
  }

  private static int warmed(int heat, int warming, int spare, int below) {
    FarMachine x = new FarMachine();
    for (int box = 0; box < warming + spare; box++) {
      x.box(box, box < warming ? WARMING : SPARE, true);
    }
    x.set(HEAT, heat);
    int answer = x.warm(below);
    state(x, HEAT, heat);
    return answer;
  }

  private static void warmEdges() {
    sentence = "WARM: how many HOURS (0 .. 200) till HEAT is below a number; -9 not in these";
    int[][] all = {{50, 0, 0, 51, 0}, {50, 0, 0, 50, 1}, {50, 0, 0, 49, 1}, {50, 0, 0, 48, 2}, {99, 0, 0, 99, 1},
        {98, 0, 0, 99, 0}, {99, 0, 0, 1, 50}, {0, 0, 0, 0, -9}, {99, 0, 0, 0, -9}, {0, 0, 0, 1, 0}, {1, 0, 0, 1, 1},
        {99, 0, 1, 1, 99}, {99, 0, 1, 0, -9}, {50, 0, 1, 50, 1}, {50, 0, 2, 50, -9}, {49, 0, 2, 50, 0}, {50, 1, 0, 50, -9},
        {49, 1, 0, 50, 0}, {0, 8, 0, 1, 0}, {99, 8, 0, 99, -9}};
    for (int[] a : all) {
      due("warm(" + a[3] + ") of " + a[0] + " by " + a[1] + " and " + a[2], warmed(a[0], a[1], a[2], a[3]), a[4]);
    }
  }

  private static void warmCold() {
    sentence = "WARM: nothing but (3) is done and BOXES stay as they are (also below COLD)";
    FarMachine x = new FarMachine();
    x.box(0, SPARE, true);
    x.box(1, TALKING, true);
    x.set(COLD, 99);
    words(x, 0, SWITCH + 0, SWITCH + 0);
    x.set(NUMBER, 3);
    due("warm(40)", x.warm(40), 11);
    state(x, ON, 3);
    state(x, HOUR, 0);
    state(x, PLACE, 0);
    state(x, SILENT, 0);
    due("warm(40), again", x.warm(40), 11);
  }

  private static void aimEdges() {
    sentence = "AIM: the first TURN (n 0 .. 31) that brings DISH within -2 .. 2, of several the least n; -9 none";
    for (int dish = -20; dish <= 20; dish++) {
      FarMachine x = new FarMachine();
      x.set(DISH, dish);
      int turn = dish < -2 ? 16 - 2 - dish : dish > 2 ? 16 + 2 - dish : 16;
      boolean reached = turn >= 0 && turn <= 31;
      due("aim() from " + dish, x.aim(), reached ? turn : -9);
      state(x, DISH, dish);
      state(x, FUEL, 60);
    }
  }

  private static void aimFuel() {
    sentence = "AIM: with the least FUEL that there is (as TURN takes it)";
    for (int cost = 1; cost <= 16; cost++) {
      FarMachine x = new FarMachine();
      x.set(DISH, cost + 2);
      x.set(FUEL, cost);
      due("aim() by FUEL " + cost, x.aim(), 16 - cost);
      x.set(FUEL, cost - 1);
      due("aim() by FUEL " + (cost - 1), x.aim(), -9);
      x.set(DISH, -cost - 2);
      due("aim() back by FUEL " + (cost - 1), x.aim(), -9);
      x.set(FUEL, cost);
      due("aim() back by FUEL " + cost, x.aim(), cost == 16 ? -9 : 16 + cost);
    }
    FarMachine x = new FarMachine();
    x.set(FUEL, 0);
    x.set(DISH, 2);
    due("aim() without FUEL", x.aim(), 16);
    x.set(DISH, -2);
    due("aim() without FUEL", x.aim(), 16);
  }

  private static void unlikeEdges() {
    sentence = "UNLIKE: WORDS that are not as in THE START";
    FarMachine x = new FarMachine();
    x.start();
    due("unlike(-1) of none", x.unlike(-1), 0);
    due("unlike(0) of none", x.unlike(0), -9);
    for (int at = 47; at >= 0; at--) {
      x.word(at, 255);
    }
    due("unlike(-1) of all", x.unlike(-1), 48);
    for (int i = 0; i < 48; i++) {
      due("unlike(" + i + ") of all", x.unlike(i), i);
    }
    due("unlike(48) of all", x.unlike(48), -9);
    x.start();
    due("unlike(-1), THE START is told anew", x.unlike(-1), 0);
    x.word(47, 254);
    due("unlike(0) of one", x.unlike(0), 47);
    due("unlike(1) of one", x.unlike(1), -9);
    x.word(47, 255);
    due("unlike(-1), as in THE START again", x.unlike(-1), 0);
    // SUSPECTS change no WORD of THE START
    x.suspect(3, 3);
    due("fits(1, 1)", x.fits(1, 1), 1);
    due("unlike(-1)", x.unlike(-1), 0);
    // nor do what TRIED brings
    x.set(DELAY, 0);
    x.command(0, 9, 1);
    x.start();
    due("fits(0, 5)", x.fits(0, 5), 1);
    due("unlike(-1)", x.unlike(-1), 0);
    x.hours(1);
    due("unlike(0)", x.unlike(0), 9);
    due("REFUSALS: -9 is none", x.count(11), 0);
  }

  // ==== THE IMAGE

  private static void imageEdges() {
    sentence = "THE IMAGE: THE MACHINE and all under way; ON from it all is as then";
    FarMachine x = counter();
    x.set(NUMBER, 125);
    for (int i = 0; i < 30; i++) {
      x.set(DELAY, i % 21);
      x.command(0, 10 + i, 100 + i);
    }
    x.set(DELAY, 2);
    x.hours(7);
    due("image()", x.image(), 7);
    for (int round = 0; round < 2; round++) {
      x.hours(500);
      due("sent()", x.sent(), 60);
      due("on()", x.on(), 7);
      due("sent()", x.sent(), 3);
      due("heard(0)", x.heard(0), 125);
      due("heard(1)", x.heard(1), 126);
      due("heard(2)", x.heard(2), 1001);
      due("count(1)", x.count(1), 30 - 7 - 7);
      state(x, NUMBER, 127);
      state(x, PLACE, 1);
      x.hours(2);
      // those of DELAY 7 and 8 came
      due("count(1)", x.count(1), 30 - 9 - 9);
      due("wordOf(18)", x.wordOf(18), 108);
      due("wordOf(19)", x.wordOf(19), 0);
      due("heard(2)", x.heard(2), 127);
      x.on();
      due("wordOf(18)", x.wordOf(18), 0);
      due("wordOf(16)", x.wordOf(16), 106);
    }
    sentence = "ON: what is SENT behind it is HEARD by the DELAY that is told behind it";
    x.set(DELAY, 0);
    x.hours(3);
    due("heard(3)", x.heard(3), 127);
    x.on();
    x.set(DELAY, 20);
    x.hours(3);
    due("sent()", x.sent(), 4);
    due("heard(3)", x.heard(3), 1001);
    due("heard(2)", x.heard(2), 127);
    sentence = "THE IMAGE is taken anew; that of an unused object";
    x = new FarMachine();
    x.image();
    x.hours(2000);
    x.start();
    due("on()", x.on(), 0);
    state(x, HEAT, 50);
    state(x, DISH, 0);
    due("no START then", x.unlike(-1), -3);
    x.hours(3);
    due("image()", x.image(), 3);
    x.hours(3);
    due("on()", x.on(), 3);
    due("on(), again", x.on(), 3);
  }

  private static void imageOfAll() {
    sentence = "ON: all is as then, DELAY, COLD, DRIFT and SILENCE, SUSPECTS, RULES, ASKS, HOLES, THE START too";
    FarMachine x = new FarMachine();
    x.set(DELAY, 1);
    x.set(COLD, 60);
    x.set(DRIFT, 1);
    x.set(SILENCE, 4);
    x.image();
    x.suspect(0, 0);
    rule(x, "h=50");
    x.ask(2, 0, 0);
    x.hole(0, 40);
    x.start();
    due("on()", x.on(), 0);
    for (int what = 2; what <= 5; what++) {
      due("count(" + what + ")", x.count(what), 0);
    }
    due("fits(0, 1): no START then", x.fits(0, 1), -3);
    due("suspect(0, 0): none then", x.suspect(0, 0), 0);
    due("holds(0)", x.holds(0), -1);
    due("fewest(1)", x.fewest(1), -9);
    // now with one of each
    due("rule()", rule(x, "h=50"), 0);
    due("ask(1, 0, 9)", x.ask(1, 0, 9), 0);
    due("hole(0, 5)", x.hole(0, 5), 1);
    x.box(0, BOX, true);
    x.start();
    due("image()", x.image(), 0);
    int[] loose = {20, 0, 99, 999};
    int[] whats = {DELAY, COLD, DRIFT, SILENCE};
    for (int i = 0; i < 4; i++) {
      x.set(whats[i], loose[i]);
    }
    x.word(5, 5);
    x.set(HEAT, 7);
    x.suspect(9, 1);
    due("rule()", rule(x, "f=60"), 1);
    due("ask(1, 0, 8)", x.ask(1, 0, 8), 1);
    due("hole(0, 9)", x.hole(0, 9), 2);
    x.start();
    due("on()", x.on(), 0);
    for (int what = 2; what <= 5; what++) {
      due("count(" + what + ")", x.count(what), 1);
    }
    due("unlike(-1)", x.unlike(-1), 0);
    due("holds(0)", x.holds(0), 1);
    due("holds(1)", x.holds(1), -1);
    due("fewest(5)", x.fewest(5), 1);
    due("fewest(6)", x.fewest(6), -9);
    due("suspect(0, 0) of then", x.suspect(0, 0), -3);
    due("suspect(9, 2)", x.suspect(9, 2), 1);
    due("suspect(9, 2), again", x.suspect(9, 2), -3);
    due("suspect(9, 1), none then", x.suspect(9, 1), 2);
    due("rule(), the second again", rule(x, "h=50&p=9"), 1);
    due("safe(0, 1, 1): RULES by HEAT 46", x.safe(0, 1, 1), 1);
    due("rule(), the third", rule(x, "p=9&h=46"), 2);
    due("safe(0, 1, 1): THE START of then", x.safe(0, 1, 1), 0);
    x.command(0, 30, 3);
    x.hours(1);
    due("wordOf(30)", x.wordOf(30), 0);
    state(x, ON, 0);
    x.hours(1);
    due("wordOf(30): DELAY of then", x.wordOf(30), 3);
    state(x, DISH, 1);
    x.hours(3);
    state(x, PLACE, 0);
    x.hours(1);
    state(x, PLACE, 40);
    state(x, DISH, 5);
  }

  private static void imageStays() {
    sentence = "ON: THE TAPE, THE ROW and REFUSALS stay";
    FarMachine x = new FarMachine();
    x.put(5);
    feed(x, "h<");
    x.wordOf(48);
    x.image();
    x.put(6);
    feed(x, "99");
    x.wordOf(48);
    x.state(10);
    due("on()", x.on(), 0);
    due("count(6)", x.count(6), 2);
    due("count(7)", x.count(7), 4);
    due("count(11)", x.count(11), 2);
    due("count(12)", x.count(12), 1);
    due("rule()", x.rule(), 0);
    due("holds(0)", x.holds(0), 1);
    due("unput()", x.unput(), 2);
    due("on()", x.on(), 0);
    due("count(6): it stays empty", x.count(6), 0);
    due("count(7): it stays empty", x.count(7), 0);
    due("count(11)", x.count(11), 2);
  }
}
