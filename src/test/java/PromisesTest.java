/** For each promise of ../shared/DOC.md: ordinary calls, the edges that it names, wrong inputs. */
public final class PromisesTest {
  private static final int WAIT = 0;
  private static final int SET = 32;
  private static final int ADD = 64;
  private static final int SWITCH = 96;
  private static final int TURN = 128;
  private static final int JUMP = 160;
  private static final int FEEL = 192;
  private static final int SEND = 224;

  private static final int BOX = 0;
  private static final int TALKING = 1;
  private static final int FEELING = 2;
  private static final int LYING = 3;
  private static final int WARMING = 4;
  private static final int TURNING = 5;
  private static final int SPARE = 6;
  private static final int BROKEN = 7;

  private static int wrong = 0;
  private static int asked = 0;
  private static String promise = "";

  private static void due(String what, long got, long want) {
    asked++;
    if (got != want) {
      wrong++;
      System.out.println(promise + ": " + what + " answered " + got + ", due is " + want);
    }
  }

  /** The counts of REFUSALS -1 .. -6 as one text. */
  private static void refused(FarMachine x, int... want) {
    for (int i = 0; i < 6; i++) {
      due("REFUSALS -" + (i + 1), x.count(11 + i), want[i]);
    }
  }

  private static void feed(FarMachine x, String text) {
    for (int from = 0; from < text.length(); from += 8) {
      int n = Math.min(8, text.length() - from);
      long bytes = 0;
      for (int i = 0; i < n; i++) {
        bytes |= (long) text.charAt(from + i) << (8 * i);
      }
      x.feed(n, bytes);
    }
  }

  private static int rule(FarMachine x, String text) {
    feed(x, text);
    return x.rule();
  }

  private static void words(FarMachine x, int from, int... values) {
    for (int i = 0; i < values.length; i++) {
      x.word(from + i, values[i]);
    }
  }

  private static void state(FarMachine x, int what, int want) {
    due("state(" + what + ")", x.state(what), want);
  }

  public static void main(String[] args) {
    p1(); p2(); p3(); p4(); p5(); p6(); p7();
    p8acts(); p8waiting(); p8heat(); p8drift(); p8silence(); p8edges();
    p9(); p9order(); p10(); p11(); p12(); p13(); p14(); p15(); p16(); p17(); p18();
    p19(); p20(); p21(); p22(); p23(); p24(); p25(); p26(); p27(); p28(); p29(); p30();
    p31(); p32(); p33(); p34();
    atTheLastHour(); commandsAtTheLastHour(); underWayAtTheLastHour();
    System.out.println(asked + " answers asked, " + wrong + " wrong");
    if (wrong != 0) {
      System.exit(1);
    }
  }

  private static void p1() {
    promise = "1 a new object";
    FarMachine x = new FarMachine();
    int[] first = {0, 0, 50, 60, 0, 0, 0, 0, 0, 0};
    for (int i = 0; i < first.length; i++) {
      state(x, i, first[i]);
    }
    for (int i = 0; i < 48; i++) {
      due("wordOf(" + i + ")", x.wordOf(i), 0);
    }
    for (int i = 0; i < 8; i++) {
      due("count(" + i + ")", x.count(i), 0);
      due("box(" + i + ")", x.box(i, BOX, false), 0);
    }
    refused(x, 0, 0, 0, 0, 0, 0);
    due("sent()", x.sent(), 0);
    // COLD is 10 at first
    x.box(0, BOX, true);
    x.hours(20);
    state(x, 2, 10);
    state(x, 8, 1);
    x.hours(1);
    state(x, 2, 8);
    state(x, 8, 0);
    // DRIFT is 24
    x.hours(3);
    state(x, 4, 0);
    x.hours(1);
    state(x, 4, 1);
    // SILENCE is 200
    x.hours(174);
    state(x, 9, 199);
    state(x, 0, 0);
    x.hours(1);
    state(x, 0, 40);
    // DELAY is 9
    x.command(1, 0, 3);
    x.hours(9);
    state(x, 0, 40);
    x.hours(1);
    state(x, 0, 3);
  }

  private static void p2() {
    promise = "2 word";
    FarMachine x = new FarMachine();
    due("word(0, 255)", x.word(0, 255), 0);
    due("word(0, 7)", x.word(0, 7), 255);
    due("word(47, 0)", x.word(47, 0), 0);
    due("word(47, 9)", x.word(47, 9), 0);
    due("wordOf(47)", x.wordOf(47), 9);
    due("word(-1, 300)", x.word(-1, 300), -1);
    due("word(48, -1)", x.word(48, -1), -1);
    due("word(0, -1)", x.word(0, -1), -4);
    due("word(0, 256)", x.word(0, 256), -6);
    due("wordOf(0)", x.wordOf(0), 7);
    due("word(0, 1)", x.word(0, 1), 7);
    refused(x, 2, 0, 0, 1, 0, 1);
    due("count(1)", x.count(1), 0);
  }

  private static void p3() {
    promise = "3 wordOf";
    FarMachine x = new FarMachine();
    x.word(5, 77);
    due("wordOf(5)", x.wordOf(5), 77);
    due("wordOf(4)", x.wordOf(4), 0);
    due("wordOf(48)", x.wordOf(48), -1);
    due("wordOf(-1)", x.wordOf(-1), -1);
    refused(x, 2, 0, 0, 0, 0, 0);
  }

  private static void p4() {
    promise = "4 box";
    FarMachine x = new FarMachine();
    due("box(7, 7, true)", x.box(7, BROKEN, true), 0);
    due("box(7, 1, false)", x.box(7, TALKING, false), 7);
    due("box(7, 1, true)", x.box(7, TALKING, true), 1);
    state(x, 8, 128);
    due("box(0, 5, true)", x.box(0, TURNING, true), 0);
    state(x, 8, 129);
    due("box(7, 1, false)", x.box(7, TALKING, false), 1);
    state(x, 8, 1);
    due("box(8, 9, true)", x.box(8, 9, true), -1);
    due("box(-1, 0, true)", x.box(-1, 0, true), -1);
    due("box(0, 8, false)", x.box(0, 8, false), -2);
    due("box(0, -1, false)", x.box(0, -1, false), -2);
    state(x, 8, 1);
    refused(x, 2, 2, 0, 0, 0, 0);
  }

  private static void p5() {
    promise = "5 set";
    int[] least = {0, -128, 0, 0, -20, 0, 0, 1, 1, 0};
    int[] most = {47, 127, 99, 99, 20, 31, 99, 99, 999, 20};
    FarMachine x = new FarMachine();
    for (int what = 0; what < 10; what++) {
      due("set(" + what + ", least)", x.set(what, least[what]), 1);
      due("set(" + what + ", less)", x.set(what, least[what] - 1), -4);
      due("set(" + what + ", most)", x.set(what, most[what]), 1);
      due("set(" + what + ", more)", x.set(what, most[what] + 1), -6);
    }
    for (int what = 0; what < 6; what++) {
      state(x, what, most[what]);
    }
    due("set(10, 0)", x.set(10, 0), -2);
    due("set(-1, -999)", x.set(-1, -999), -2);
    refused(x, 0, 2, 0, 10, 0, 10);
    // COLD 51: HEAT 48 is below it
    x = new FarMachine();
    x.box(0, BOX, true);
    x.set(6, 49);
    x.hours(1);
    state(x, 8, 0);
    // DRIFT 1: each HOUR but 0
    x.set(7, 1);
    x.hours(2);
    state(x, 4, 2);
    // SILENCE 4 with three HOURS counted
    x.set(8, 4);
    x.hours(1);
    state(x, 0, 40);
    // DELAY 0
    x.set(9, 0);
    x.command(1, 0, 9);
    x.hours(1);
    state(x, 0, 9);
  }

  private static void p6() {
    promise = "6 state";
    FarMachine x = new FarMachine();
    int[] powers = {1, 4, 2, 2, 3, 5, 2, 0};
    for (int kind = 0; kind < 8; kind++) {
      x.box(0, kind, true);
      state(x, 7, powers[kind]);
    }
    for (int kind = 0; kind < 8; kind++) {
      x.box(kind, kind, true);
    }
    state(x, 7, 19);
    state(x, 8, 255);
    x.box(5, TURNING, false);
    state(x, 7, 14);
    state(x, 8, 223);
    x.hours(3);
    state(x, 6, 3);
    state(x, 9, 3);
    due("state(10)", x.state(10), 1002);
    due("state(-1)", x.state(-1), 1002);
    refused(x, 0, 2, 0, 0, 0, 0);
  }

  private static void p7() {
    promise = "7 felt";
    FarMachine x = new FarMachine();
    due("felt(0) without FEELING", x.felt(0), 0);
    x.box(5, LYING, true);
    due("felt(0) LYING", x.felt(0), 55);
    x.box(6, FEELING, true);
    due("felt(0) LYING is least", x.felt(0), 55);
    x.box(2, FEELING, true);
    due("felt(0) FEELING is least", x.felt(0), 50);
    x.box(1, LYING, false);
    due("felt(0) the least is OFF", x.felt(0), 50);
    x.set(2, 99);
    x.box(1, LYING, true);
    due("felt(0) LYING of 99", x.felt(0), 104);
    x.box(0, FEELING, true);
    due("felt(0) FEELING is BOX 0", x.felt(0), 99);
    x.box(0, FEELING, false);
    x.set(3, 33);
    x.set(4, -7);
    x.set(1, -100);
    x.set(0, 44);
    due("felt(1)", x.felt(1), 33);
    due("felt(2)", x.felt(2), -7);
    due("felt(3)", x.felt(3), 0);
    due("felt(4)", x.felt(4), 4);
    due("felt(5)", x.felt(5), -100);
    due("felt(6)", x.felt(6), 44);
    due("felt(7)", x.felt(7), 8);
    x.word(24, 200);
    x.word(47, 255);
    due("felt(8)", x.felt(8), 72);
    due("felt(31)", x.felt(31), 127);
    due("felt(9)", x.felt(9), -128);
    x.hours(25);
    due("felt(3) in HOUR 25", x.felt(3), 1);
    due("felt(-1)", x.felt(-1), 1004);
    due("felt(32)", x.felt(32), 1006);
    refused(x, 0, 0, 0, 1, 0, 1);
  }

  private static void p8acts() {
    promise = "8 hours: acts";
    FarMachine x = new FarMachine();
    words(x, 0, SET + 31, ADD + 31, ADD + 0, SWITCH + 8, SWITCH + 31, SWITCH + 0, SWITCH + 23);
    x.hours(1);
    state(x, 1, 31);
    x.hours(1);
    state(x, 1, 46);
    x.hours(1);
    state(x, 1, 30);
    x.hours(1);
    state(x, 8, 1);
    x.hours(1);
    state(x, 8, 129);
    x.hours(1);
    state(x, 8, 128);
    x.hours(1);
    state(x, 8, 0);
    state(x, 0, 7);
    // SWITCH goes by n modulo 16: 24 is 8, 16 is 0
    words(x, 7, SWITCH + 24, SWITCH + 16);
    x.hours(1);
    state(x, 8, 1);
    x.hours(1);
    state(x, 8, 0);

    x = new FarMachine();
    words(x, 0, ADD + 31, ADD + 0, ADD + 0);
    x.set(1, 120);
    x.hours(1);
    state(x, 1, 127);
    x.set(1, -120);
    x.hours(1);
    state(x, 1, -128);
    x.hours(1);
    state(x, 1, -128);

    // JUMP above 0 alone; behind 47 comes 0
    x = new FarMachine();
    x.word(46, SET + 1);
    x.set(0, 46);
    x.hours(1);
    state(x, 0, 47);
    x.set(1, 0);
    x.word(47, JUMP + 5);
    x.set(0, 47);
    x.hours(1);
    state(x, 0, 0);
    x.set(0, 47);
    x.set(1, -1);
    x.hours(1);
    state(x, 0, 0);
    x.set(0, 47);
    x.set(1, 1);
    x.hours(1);
    state(x, 0, 5);
    x.word(31, JUMP + 31);
    x.set(0, 31);
    x.hours(2);
    state(x, 0, 31);

    turning();
    feelingAndSending();
  }

  private static void turning() {
    FarMachine x = new FarMachine();
    words(x, 0, TURN + 31, TURN + 31, TURN + 0, TURN + 0, TURN + 0, TURN + 15, TURN + 16, TURN + 18);
    x.hours(1);
    state(x, 4, 0);
    state(x, 3, 60);
    x.box(3, TURNING, true);
    x.hours(1);
    state(x, 4, 15);
    state(x, 3, 45);
    x.set(4, -10);
    x.hours(1);
    state(x, 4, -20);
    state(x, 3, 29);
    x.set(3, 15);
    x.hours(1);
    state(x, 4, -20);
    state(x, 3, 15);
    x.set(3, 16);
    x.set(4, 20);
    x.hours(1);
    state(x, 4, 4);
    state(x, 3, 0);
    x.hours(1);
    state(x, 4, 4);
    x.hours(1);
    state(x, 4, 4);
    x.set(4, 19);
    x.set(3, 99);
    x.hours(1);
    state(x, 4, 20);
    state(x, 3, 97);
    state(x, 0, 8);
    // a BROKEN one or one that is OFF turns nothing
    x.set(0, 2);
    x.box(3, TURNING, false);
    x.box(4, BROKEN, true);
    x.hours(1);
    state(x, 4, 20);
    state(x, 3, 97);
  }

  private static void feelingAndSending() {
    FarMachine x = new FarMachine();
    words(x, 0, FEEL + 1, FEEL + 6, FEEL + 3, FEEL + 31, SEND + 5, SEND + 6);
    x.hours(1);
    state(x, 1, 60);
    x.hours(1);
    state(x, 1, 1);
    x.hours(1);
    state(x, 1, 2);
    x.hours(1);
    state(x, 1, -128);
    x.hours(1);
    due("sent() without TALKING", x.sent(), 0);
    x.box(7, TALKING, true);
    x.hours(1);
    due("sent()", x.sent(), 1);
    x.hours(9);
    due("heard(0) is PLACE ahead of the step", x.heard(0), 5);
    // DISH within -2 .. 2
    int[] dishes = {-3, -2, 2, 3};
    int[] sent = {1, 2, 3, 3};
    for (int i = 0; i < 4; i++) {
      x.set(0, 4);
      x.set(4, dishes[i]);
      x.hours(1);
      due("sent() by DISH " + dishes[i], x.sent(), sent[i]);
    }
    x.box(7, TALKING, false);
    x.set(4, 0);
    x.set(0, 4);
    x.hours(1);
    due("sent() by TALKING that is OFF", x.sent(), 3);
  }

  private static void p8waiting() {
    promise = "8 hours: waiting";
    FarMachine x = new FarMachine();
    words(x, 0, WAIT + 31, SET + 9, WAIT + 0);
    x.hours(1);
    state(x, 5, 31);
    state(x, 0, 1);
    x.hours(31);
    state(x, 5, 0);
    state(x, 1, 0);
    x.hours(1);
    state(x, 1, 9);
    x.hours(5);
    state(x, 0, 2);
    x.set(5, 2);
    x.set(0, 1);
    x.set(1, 0);
    x.hours(2);
    state(x, 1, 0);
    state(x, 0, 1);
    x.hours(1);
    state(x, 1, 9);
    // WAIT at 47 goes to 0
    x.word(47, WAIT + 1);
    x.set(0, 47);
    x.hours(1);
    state(x, 0, 0);
    state(x, 5, 1);
  }

  private static void p8heat() {
    promise = "8 hours: heat";
    FarMachine x = new FarMachine();
    x.hours(1);
    state(x, 2, 48);
    x.box(0, WARMING, true);
    x.hours(1);
    state(x, 2, 49);
    x.box(1, SPARE, true);
    x.hours(1);
    state(x, 2, 51);
    x.box(2, WARMING, true);
    x.hours(1);
    state(x, 2, 56);
    x.set(2, 98);
    x.hours(1);
    state(x, 2, 99);
    x.hours(1);
    state(x, 2, 99);
    x.box(2, WARMING, false);
    x.box(0, WARMING, false);
    x.hours(1);
    state(x, 2, 98);
    x.box(1, SPARE, false);
    x.set(6, 0);
    x.set(2, 1);
    x.box(3, BOX, true);
    x.hours(1);
    state(x, 2, 0);
    state(x, 8, 8);
    x.hours(1);
    state(x, 2, 0);
    // below COLD all but WARMING and SPARE are OFF
    for (int box = 0; box < 8; box++) {
      x.box(box, box, true);
    }
    x.box(4, WARMING, false);
    x.set(6, 30);
    x.set(2, 31);
    x.hours(1);
    state(x, 2, 30);
    state(x, 8, 239);
    x.box(4, WARMING, true);
    x.set(2, 27);
    x.hours(1);
    state(x, 2, 29);
    state(x, 8, 80);
    // an act SWITCHes ahead of (3)
    x = new FarMachine();
    x.box(2, WARMING, false);
    x.word(0, SWITCH + 10);
    x.hours(1);
    state(x, 2, 51);
  }

  private static void p8drift() {
    promise = "8 hours: drift";
    FarMachine x = new FarMachine();
    x.set(7, 5);
    x.hours(5);
    state(x, 4, 0);
    x.hours(1);
    state(x, 4, 1);
    x.hours(4);
    state(x, 4, 1);
    x.hours(1);
    state(x, 4, 2);
    x.set(7, 1);
    x.set(4, 19);
    x.hours(1);
    state(x, 4, 20);
    x.hours(3);
    state(x, 4, 20);
    x.set(4, -20);
    x.hours(1);
    state(x, 4, -19);
  }

  private static void p8silence() {
    promise = "8 hours: silence";
    FarMachine x = new FarMachine();
    x.set(8, 3);
    x.set(5, 20);
    x.set(9, 1);
    x.hours(2);
    state(x, 9, 2);
    state(x, 5, 18);
    x.hours(1);
    state(x, 0, 40);
    state(x, 5, 0);
    state(x, 9, 0);
    x.hours(2);
    x.set(0, 7);
    x.command(2, 0, 0);
    state(x, 9, 2);
    x.set(8, 9);
    x.hours(1);
    state(x, 9, 3);
    x.hours(1);
    state(x, 9, 0);
    state(x, 0, 7);
    // as many HOURS or more
    x.set(8, 999);
    x.hours(6);
    state(x, 9, 6);
    x.set(8, 2);
    state(x, 0, 7);
    x.hours(1);
    state(x, 0, 40);
    state(x, 9, 0);
    x.set(8, 1);
    x.set(0, 3);
    x.hours(1);
    state(x, 0, 40);
  }

  private static void p8edges() {
    promise = "8 hours: edges";
    FarMachine x = new FarMachine();
    due("hours(1)", x.hours(1), 1);
    due("hours(0)", x.hours(0), -4);
    due("hours(-5)", x.hours(-5), -4);
    due("hours(2001)", x.hours(2001), -6);
    due("hours(2^31 - 1)", x.hours(Integer.MAX_VALUE), -6);
    state(x, 6, 1);
    due("hours(2000)", x.hours(2000), 2000);
    due("hours(3)", x.hours(3), 2000);
    refused(x, 0, 0, 0, 2, 0, 2);
  }

  private static void p9() {
    promise = "9 command";
    FarMachine x = new FarMachine();
    due("command(3, 99, 999)", x.command(3, 99, 999), -2);
    due("command(-1, 0, 0)", x.command(-1, 0, 0), -2);
    due("command(0, 48, -1)", x.command(0, 48, -1), -1);
    due("command(0, -1, 0)", x.command(0, -1, 0), -1);
    due("command(0, 0, -1)", x.command(0, 0, -1), -4);
    due("command(0, 0, 256)", x.command(0, 0, 256), -6);
    due("command(1, -7, -1)", x.command(1, -7, -1), -4);
    due("command(1, 99, 48)", x.command(1, 99, 48), -6);
    due("count(1)", x.count(1), 0);
    due("command(0, 47, 255)", x.command(0, 47, 255), 1);
    due("command(1, 99, 47)", x.command(1, 99, 47), 2);
    due("command(2, -99, -999)", x.command(2, -99, -999), 3);
    for (int i = 4; i <= 30; i++) {
      due("command, the " + i + ".", x.command(2, 0, 0), i);
    }
    due("command, the 31.", x.command(2, 0, 0), -6);
    due("command(1, 0, -1) of 31", x.command(1, 0, -1), -4);
    due("count(1)", x.count(1), 30);
    refused(x, 2, 2, 0, 3, 0, 3);
    x.hours(9);
    due("count(1)", x.count(1), 30);
    due("wordOf(47)", x.wordOf(47), 0);
    x.hours(1);
    due("count(1)", x.count(1), 0);
    due("wordOf(47)", x.wordOf(47), 255);
    due("command again", x.command(2, 0, 0), 1);
  }

  private static void p9order() {
    promise = "9 command: order";
    // of those that come in one HOUR the later sent has the last word
    FarMachine x = new FarMachine();
    x.set(9, 2);
    x.command(0, 3, 10);
    x.command(0, 3, 11);
    x.command(1, 0, 20);
    x.command(1, 0, 30);
    x.set(5, 9);
    x.word(30, SET + 7);
    x.hours(2);
    due("wordOf(3)", x.wordOf(3), 0);
    state(x, 5, 7);
    x.hours(1);
    due("wordOf(3)", x.wordOf(3), 11);
    // PLACE 30 with REST 0: its WORD is done in the same HOUR
    state(x, 1, 7);
    state(x, 0, 31);
    state(x, 5, 0);
    // each by the DELAY that it was sent with
    x.set(9, 5);
    x.command(0, 1, 5);
    x.set(9, 0);
    x.command(0, 2, 6);
    due("count(1)", x.count(1), 2);
    x.hours(1);
    due("count(1)", x.count(1), 1);
    due("wordOf(2)", x.wordOf(2), 6);
    due("wordOf(1)", x.wordOf(1), 0);
    x.hours(5);
    due("wordOf(1)", x.wordOf(1), 5);
    // DELAY 20 is the most
    x.set(9, 20);
    x.command(0, 1, 9);
    x.hours(20);
    due("wordOf(1)", x.wordOf(1), 5);
    x.hours(1);
    due("wordOf(1)", x.wordOf(1), 9);
  }

  private static FarMachine talker() {
    FarMachine x = new FarMachine();
    x.box(0, TALKING, true);
    x.box(1, WARMING, true);
    x.set(7, 99);
    return x;
  }

  private static void p10() {
    promise = "10 sent";
    FarMachine x = talker();
    words(x, 0, SEND + 3, SEND + 3, SEND + 3, SEND + 3, SET + 1, JUMP + 0);
    due("sent()", x.sent(), 0);
    x.hours(3);
    due("sent()", x.sent(), 3);
    x.hours(84);
    due("sent()", x.sent(), 59);
    x.hours(3);
    due("sent()", x.sent(), 60);
    x.hours(6);
    due("sent() is 60 at most", x.sent(), 60);
    x.hours(9);
    due("heard(59)", x.heard(59), 15);
    due("heard(60)", x.heard(60), 1001);
  }

  private static void p11() {
    promise = "11 heard";
    FarMachine x = talker();
    x.set(9, 3);
    words(x, 0, SEND + 8, SEND + 9, SEND + 10);
    words(x, 24, 0, 255, 130);
    x.hours(2);
    due("heard(0) too early", x.heard(0), 1001);
    x.hours(1);
    due("heard(0)", x.heard(0), -128);
    due("heard(1) too early", x.heard(1), 1001);
    x.hours(1);
    due("heard(1)", x.heard(1), 127);
    x.hours(4);
    due("heard(2)", x.heard(2), 2);
    due("heard(3)", x.heard(3), 1001);
    due("heard(-1)", x.heard(-1), 1001);
    refused(x, 4, 0, 0, 0, 0, 0);
    // by the DELAY of then: what was SENT later may be HEARD first
    x = talker();
    words(x, 0, SEND + 3, SEND + 3, SEND + 3);
    x.hours(1);
    x.set(9, 0);
    x.hours(1);
    due("heard(0) is the second SENT", x.heard(0), 1);
    due("heard(1)", x.heard(1), 1001);
    x.set(9, 20);
    x.hours(7);
    due("heard(0) is the first SENT", x.heard(0), 0);
    due("heard(1)", x.heard(1), 1);
    x.hours(12);
    due("heard(2)", x.heard(2), 1001);
    x.hours(1);
    due("heard(2)", x.heard(2), 2);
  }

  private static void p12() {
    promise = "12 start";
    FarMachine x = talker();
    x.word(0, SEND + 5);
    x.set(1, 9);
    x.hours(0);
    x.hours(2);
    x.set(0, 0);
    due("start()", x.start(), 2);
    x.put(9);
    due("fits(0, 1)", x.fits(0, 1), 1);
    // THE START stays as it was told
    x.word(0, 0);
    x.set(1, 7);
    x.box(0, TALKING, false);
    x.hours(5);
    due("fits(0, 1)", x.fits(0, 1), 1);
    // until it is told anew
    due("start()", x.start(), 7);
    due("fits(0, 1)", x.fits(0, 1), 0);
    // with all that is under way then, and with what was told of COLD, DRIFT, SILENCE
    x = talker();
    x.set(9, 1);
    x.command(0, 1, SEND + 5);
    words(x, 0, SET + 4, WAIT + 0, SET + 5);
    x.start();
    x.set(8, 1);
    x.set(6, 99);
    x.hours(5);
    x.put(4);
    due("fits(0, 2)", x.fits(0, 2), 1);
    due("fits(0, 1)", x.fits(0, 1), 0);
  }

  private static void p13() {
    promise = "13 suspect";
    FarMachine x = new FarMachine();
    due("suspect(47, 7)", x.suspect(47, 7), 0);
    due("suspect(0, 0)", x.suspect(0, 0), 1);
    due("suspect(0, 0)", x.suspect(0, 0), -3);
    due("suspect(47, 7)", x.suspect(47, 7), -3);
    due("suspect(47, 0)", x.suspect(47, 0), 2);
    due("suspect(48, 9)", x.suspect(48, 9), -1);
    due("suspect(-1, -1)", x.suspect(-1, -1), -1);
    due("suspect(0, -1)", x.suspect(0, -1), -4);
    due("suspect(0, 8)", x.suspect(0, 8), -6);
    for (int i = 3; i < 8; i++) {
      due("suspect " + i, x.suspect(i, 1), i);
    }
    due("suspect, the ninth", x.suspect(9, 1), -6);
    due("suspect, full and one already", x.suspect(0, 0), -6);
    due("suspect, full and below", x.suspect(0, -1), -4);
    due("count(2)", x.count(2), 8);
    due("a SUSPECT goes over in STATES alone", x.wordOf(47), 0);
    refused(x, 2, 0, 2, 2, 0, 3);
  }

  private static void p14() {
    promise = "14 put";
    FarMachine x = new FarMachine();
    due("put(-129)", x.put(-129), -4);
    due("put(128)", x.put(128), -6);
    due("put(-128)", x.put(-128), 1);
    due("put(127)", x.put(127), 2);
    for (int i = 3; i <= 40; i++) {
      due("put, the " + i + ".", x.put(0), i);
    }
    due("put, the 41.", x.put(0), -6);
    due("put(-129) of 41", x.put(-129), -4);
    due("count(6)", x.count(6), 40);
    refused(x, 0, 0, 0, 2, 0, 2);
  }

  private static void p15() {
    promise = "15 unput";
    FarMachine x = new FarMachine();
    due("unput()", x.unput(), 0);
    x.put(4);
    x.put(5);
    due("unput()", x.unput(), 2);
    due("unput()", x.unput(), 0);
    due("count(6)", x.count(6), 0);
    due("put(1)", x.put(1), 1);
  }

  /** WORD 0 sends NUMBER, 1 adds, 2 sends NUMBER, 3 waits. */
  private static FarMachine suspected() {
    FarMachine x = talker();
    words(x, 0, SEND + 5, ADD + 17, SEND + 5, WAIT + 0);
    x.set(1, 10);
    x.suspect(1, 1);
    x.suspect(1, 2);
    x.suspect(3, 0);
    x.start();
    return x;
  }

  private static void p16() {
    promise = "16 fits";
    FarMachine x = suspected();
    x.put(10);
    x.put(11);
    due("fits(0, 3)", x.fits(0, 3), 1);
    due("fits(0, 60)", x.fits(0, 60), 1);
    due("fits(4, 60)", x.fits(4, 60), 1);
    due("fits(0, 2): one too few", x.fits(0, 2), 0);
    due("fits(1, 3): another byte", x.fits(1, 3), 0);
    x.unput();
    x.put(10);
    x.put(13);
    due("fits(1, 3)", x.fits(1, 3), 1);
    due("fits(2, 3)", x.fits(2, 3), 0);
    x.unput();
    x.put(10);
    due("fits(0, 3): one too many", x.fits(0, 3), 0);
    due("fits(0, 1)", x.fits(0, 1), 1);
    due("fits(8, 0)", x.fits(8, 0), -1);
    due("fits(-1, 1)", x.fits(-1, 1), -1);
    due("fits(7, 0)", x.fits(7, 0), -4);
    due("fits(7, 61)", x.fits(7, 61), -6);
    refused(x, 2, 0, 0, 1, 0, 1);
    state(x, 6, 0);
    due("sent(): what is TRIED is not SENT", x.sent(), 0);
    x = new FarMachine();
    due("fits(0, 1) without START", x.fits(0, 1), -3);
    due("fits(1, 1)", x.fits(1, 1), -1);
    due("fits(0, 61)", x.fits(0, 61), -6);
    x.start();
    due("fits(0, 1): nothing SENT, nothing in THE ROW", x.fits(0, 1), 1);
    // bytes that are lost count too
    x = talker();
    words(x, 0, SEND + 6, SET + 1, JUMP + 0);
    x.hours(183);
    due("sent()", x.sent(), 60);
    x.start();
    x.put(0);
    due("fits(0, 3)", x.fits(0, 3), 1);
  }

  private static void p17() {
    promise = "17 fitting";
    FarMachine x = suspected();
    // all STATES send 10 first
    x.put(10);
    due("fitting(1, 0)", x.fitting(1, 0), 8);
    due("fitting(1, 1)", x.fitting(1, 1), 0);
    due("fitting(1, 2)", x.fitting(1, 2), 7);
    due("fitting(1, 3)", x.fitting(1, 3), 0);
    // ADD 17 with bit 1 over is 19, with both 23: 13 is 10 and 3
    x.put(13);
    due("fitting(3, 0)", x.fitting(3, 0), 2);
    due("fitting(3, 1)", x.fitting(3, 1), 1);
    due("fitting(3, 2)", x.fitting(3, 2), 5);
    due("fitting(3, 3)", x.fitting(3, 3), 1);
    x.unput();
    x.put(10);
    x.put(17);
    due("fitting(3, 1)", x.fitting(3, 1), 3);
    due("fitting(3, 3)", x.fitting(3, 3), 3);
    x.put(1);
    due("fitting(3, 0)", x.fitting(3, 0), 0);
    for (int what = 1; what <= 3; what++) {
      due("fitting(3, " + what + ")", x.fitting(3, what), -9);
    }
    due("fitting(0, 4)", x.fitting(0, 4), -2);
    due("fitting(1, -1)", x.fitting(1, -1), -2);
    due("fitting(0, 0)", x.fitting(0, 0), -4);
    due("fitting(61, 0)", x.fitting(61, 0), -6);
    refused(x, 0, 2, 0, 1, 0, 1);
    // the fewest, of several the least: bits 1 (1), 2 and 0 (6) or 3 (8) alone
    x = talker();
    words(x, 0, ADD + 16, SEND + 5);
    x.suspect(0, 0);
    x.suspect(0, 1);
    x.suspect(2, 0);
    x.suspect(2, 1);
    x.start();
    x.put(1);
    due("fitting(2, 0)", x.fitting(2, 0), 4);
    due("fitting(2, 3)", x.fitting(2, 3), 1);
    x = new FarMachine();
    due("fitting(1, 0) without START", x.fitting(1, 0), -3);
    due("fitting(1, 3) without START", x.fitting(1, 3), -3);
    due("fitting(61, 0) without START", x.fitting(61, 0), -6);
    leastOfFewest();
  }

  /** SENDs 3 behind ADD by bits 0 and 1 of one WORD, or by bit 0 of another two. */
  private static void leastOfFewest() {
    FarMachine x = talker();
    words(x, 0, SET + 4, SEND + 5);
    x.suspect(1, 1);
    x.suspect(0, 1);
    x.suspect(0, 0);
    x.suspect(1, 0);
    x.start();
    // SEND 5 becomes 7 (POWER 7) by 1 alone, or NUMBER 7 is SENT by 2 and 4
    x.put(7);
    due("fitting(2, 3)", x.fitting(2, 3), 1);
    due("fitting(2, 1)", x.fitting(2, 1), 0);
    x.unput();
    x.put(5);
    due("fitting(2, 3) of 4 alone", x.fitting(2, 3), 4);
    due("fitting(2, 0)", x.fitting(2, 0), 1);
    // of two that have one each the least: both make NUMBER 5
    x = talker();
    words(x, 0, SET + 4, ADD + 16, SEND + 5);
    x.suspect(7, 7);
    x.suspect(1, 0);
    x.suspect(0, 0);
    x.start();
    x.put(5);
    due("fitting(3, 0)", x.fitting(3, 0), 4);
    due("fitting(3, 3)", x.fitting(3, 3), 2);
    x = talker();
    words(x, 0, SEND + 5);
    x.suspect(0, 0);
    x.suspect(7, 0);
    x.start();
    x.put(0);
    due("fitting(1, 2): without the first", x.fitting(1, 2), 2);
  }

  private static void p18() {
    promise = "18 feed";
    FarMachine x = new FarMachine();
    due("feed(1, ..)", x.feed(1, 104L), 1);
    due("feed(0, 1)", x.feed(0, 1L), -4);
    due("feed(-1, 1)", x.feed(-1, 1L), -4);
    due("feed(9, 1)", x.feed(9, 1L), -6);
    due("feed(8, ..)", x.feed(8, -1L), 9);
    due("feed(8, ..)", x.feed(8, -1L), 17);
    due("feed(8, ..)", x.feed(8, -1L), 25);
    due("feed(6, ..)", x.feed(6, -1L), -6);
    due("feed(5, ..)", x.feed(5, -1L), 30);
    due("feed(1, ..)", x.feed(1, -1L), -6);
    due("feed(0, ..)", x.feed(0, -1L), -4);
    due("count(7)", x.count(7), 30);
    refused(x, 0, 0, 0, 3, 0, 3);
    due("rule(): h and 255", x.rule(), -21);
    // the lowest byte first, and no more than n
    due("feed(3, ..)", x.feed(3, 0x99323C68L), 3);
    due("rule()", x.rule(), 0);
    // a byte of 128 and above is no sign of another one
    x.feed(4, 0xFFFFFFFFE83C3368L);
    due("rule()", x.rule(), -21);
  }

  private static void p19() {
    promise = "19 rule";
    FarMachine x = new FarMachine();
    String[] faults = {
      "", "x<1", "h", "h<", "h<1&", "h<1)", "h<1 ", " h<1", "hh", "h<h<h", "1111<h", "h<1111", "h<-",
      "h<--1", "-h<1", "-", "!", "!!", "!&", "h!<1", "h<!1", "h<=1", "h<1&&h<1", "h<1&!", "&h<1",
      "12h<1", "H<1", "h<1&x", "a<b", "h<1!", "-1-2<h", "h<12a", "h&1", "h<1&h", "1<2<3",
    };
    int[] places = {
      0, 0, 1, 2, 4, 3, 3, 0, 1, 3, 3, 5, 3,
      3, 1, 1, 1, 2, 1, 1, 2, 2, 4, 5, 0,
      2, 0, 4, 2, 3, 2, 4, 1, 5, 3,
    };
    for (int i = 0; i < faults.length; i++) {
      due("rule() of \"" + faults[i] + "\"", rule(x, faults[i]), -20 - places[i]);
      due("count(7)", x.count(7), 0);
    }
    due("count(3)", x.count(3), 0);
    refused(x, 0, 0, 0, 0, 0, 0);
    due("a RULE", rule(x, "h<1"), 0);
    due("a RULE", rule(x, "!!!-999=-0&000>t&!a<w"), 1);
    due("a RULE of 30", rule(x, "!!!!!!!!!!!!!!!!!!!!!!!!!!!h<1"), 2);
    due("a RULE of 7", rule(x, "h<1&f<1&d<1&a<1&p<1&t<1&w<1"), 3);
    due("30 bytes that lack", rule(x, "!!!!!!!!!!!!!!!!!!!!!!!!!!!!h<"), -50);
    for (int i = 4; i < 10; i++) {
      due("a RULE", rule(x, "o>" + i), i);
    }
    feed(x, "h<1");
    due("the eleventh", x.rule(), -6);
    due("count(7): THE TAPE stays", x.count(7), 3);
    due("count(3)", x.count(3), 10);
    feed(x, "&");
    due("the eleventh with a FAULT", x.rule(), -6);
    due("count(7)", x.count(7), 4);
    refused(x, 0, 0, 0, 0, 0, 2);
  }

  private static void holding(FarMachine x, String text, int want) {
    int rule = rule(x, text);
    due("holds() of \"" + text + "\"", x.holds(rule), want);
  }

  private static void p20() {
    promise = "20 holds";
    FarMachine x = new FarMachine();
    x.set(0, 41);
    x.set(1, -5);
    x.set(2, 70);
    x.set(3, 33);
    x.set(4, -12);
    x.box(2, TURNING, true);
    x.box(3, LYING, true);
    // of a text with a FAULT nothing stays
    due("a FAULT behind two TESTS", rule(x, "h=0&f=0&x"), -28);
    holding(x, "h=70&f=33&d=-12&a=-5&p=41", 1);
    holding(x, "t=0&w=7&o=2", 1);
    holding(x, "h<70", 0);
    holding(x, "h>70", 0);
    holding(x, "!h>70&!h<70", 1);
    holding(x, "!!h=70&!!!h=70", 0);
    holding(x, "d<a&a<p&p>f&69<h&h<71", 1);
    holding(x, "h=70&f=33&d=-12&a=-5&p=40", 0);
    holding(x, "h=71&f=33", 0);
    due("holds(8)", x.holds(8), 0);
    due("holds(9)", x.holds(9), -1);
    due("holds(-1)", x.holds(-1), -1);
    refused(x, 2, 0, 0, 0, 0, 0);
    // as it is now
    due("holds(0)", x.holds(0), 1);
    x.hours(1);
    due("holds(0)", x.holds(0), 0);
    due("holds(1)", x.holds(1), 0);
    holding(x, "t=1", 1);
    due("holds(9)", x.holds(9), 1);
    x.hours(24);
    due("holds(9) a day later", x.holds(9), 1);
  }

  private static void p21() {
    promise = "21 broken";
    FarMachine x = suspected();
    due("broken(0, 60) without RULES", x.broken(0, 60), -9);
    rule(x, "a=13");
    rule(x, "p=3");
    rule(x, "p>1");
    // behind the first HOUR PLACE is 1, behind the second 2
    due("broken(0, 1)", x.broken(0, 1), -9);
    due("broken(0, 2)", x.broken(0, 2), 102);
    due("broken(0, 60)", x.broken(0, 60), 102);
    due("broken(1, 2)", x.broken(1, 2), 100);
    rule(x, "t=1");
    due("broken(1, 2): HOUR is 1 more behind the first", x.broken(1, 2), 3);
    due("broken(8, 1)", x.broken(8, 1), -1);
    due("broken(-1, 0)", x.broken(-1, 0), -1);
    due("broken(0, 0)", x.broken(0, 0), -4);
    due("broken(0, 61)", x.broken(0, 61), -6);
    refused(x, 2, 0, 0, 1, 0, 1);
    x = new FarMachine();
    due("broken(0, 1) without START", x.broken(0, 1), -3);
    due("broken(0, 61) without START", x.broken(0, 61), -6);
    x.start();
    rule(x, "h=50");
    due("broken(0, 60): what is so at THE START counts not", x.broken(0, 60), -9);
    rule(x, "t=10&h=30");
    due("broken(0, 60)", x.broken(0, 60), 901);
    rule(x, "t=12&d=2");
    x.set(7, 1);
    due("broken: THE START has the DRIFT of then", x.broken(0, 60), 901);
    rule(x, "h=0");
    due("broken(0, 60)", x.broken(0, 60), 901);
    due("broken(0, 9)", x.broken(0, 9), -9);
  }

  private static void p22() {
    promise = "22 ask";
    FarMachine x = new FarMachine();
    due("ask(3, 0, 0)", x.ask(3, 0, 0), -2);
    due("ask(-1, 0, 0)", x.ask(-1, 0, 0), -2);
    due("ask(0, 48, -1)", x.ask(0, 48, -1), -1);
    due("ask(0, 0, -1)", x.ask(0, 0, -1), -4);
    due("ask(0, 0, 256)", x.ask(0, 0, 256), -6);
    due("ask(1, 99, 48)", x.ask(1, 99, 48), -6);
    due("ask(0, 47, 255)", x.ask(0, 47, 255), 0);
    due("ask(1, 99, 47)", x.ask(1, 99, 47), 1);
    due("ask(2, -1, -1)", x.ask(2, -1, -1), 2);
    for (int i = 3; i < 6; i++) {
      due("ask " + i, x.ask(2, 0, 0), i);
    }
    due("ask, the seventh", x.ask(2, 0, 0), -6);
    due("ask, the seventh and below", x.ask(1, 0, -1), -4);
    due("count(4)", x.count(4), 6);
    due("count(1): none goes", x.count(1), 0);
    refused(x, 1, 2, 0, 2, 0, 3);
  }

  /** WORDS 0, 1 and 20 on as suspected(); four STATES FIT in one HOUR. */
  private static FarMachine asked() {
    FarMachine x = talker();
    words(x, 0, SEND + 5, WAIT + 0);
    words(x, 20, SEND + 5, ADD + 17, SEND + 5, WAIT + 0);
    words(x, 30, SET + 3, WAIT + 0);
    x.set(1, 10);
    x.suspect(21, 1);
    x.suspect(21, 2);
    x.start();
    x.put(10);
    x.ask(1, 0, 30);
    x.ask(1, 0, 20);
    x.ask(2, 0, 0);
    x.ask(0, 1, SEND + 5);
    return x;
  }

  private static void p23() {
    promise = "23 safe";
    FarMachine x = asked();
    due("safe(0, 1, 60) without RULES", x.safe(0, 1, 60), 1);
    rule(x, "a=3");
    due("safe(0, 1, 1)", x.safe(0, 1, 1), 0);
    due("safe(1, 1, 60)", x.safe(1, 1, 60), 1);
    rule(x, "a=17");
    due("safe(1, 1, 60): in one STATE", x.safe(1, 1, 60), 0);
    due("safe(1, 1, 1)", x.safe(1, 1, 1), 1);
    due("safe(1, 1, 2)", x.safe(1, 1, 2), 0);
    due("safe(2, 1, 60)", x.safe(2, 1, 60), 1);
    due("safe(4, 0, 0)", x.safe(4, 0, 0), -1);
    due("safe(-1, 1, 1)", x.safe(-1, 1, 1), -1);
    due("safe(0, 0, 61)", x.safe(0, 0, 61), -4);
    due("safe(0, 61, 0)", x.safe(0, 61, 0), -4);
    due("safe(0, 61, 1)", x.safe(0, 61, 1), -6);
    due("safe(0, 1, 61)", x.safe(0, 1, 61), -6);
    x.put(1);
    due("safe(0, 1, 1): none FITS", x.safe(0, 1, 1), -3);
    refused(x, 2, 0, 1, 2, 0, 2);
    x = new FarMachine();
    x.ask(2, 0, 0);
    due("safe(0, 1, 1) without START", x.safe(0, 1, 1), -3);
    due("safe(0, 61, 1) without START", x.safe(0, 61, 1), -6);
    // a RULE that holds in the n HOURS or ahead of the m HOURS counts not
    x.start();
    rule(x, "t<3");
    due("safe(0, 1, 1)", x.safe(0, 1, 1), 0);
    due("safe(0, 2, 1)", x.safe(0, 2, 1), 1);
    // only STATES that FIT count
    x = asked();
    rule(x, "a=17");
    x.unput();
    x.suspect(0, 1);
    x.put(7);
    due("fitting(1, 2)", x.fitting(1, 2), 7);
    due("fitting(1, 1)", x.fitting(1, 1), 4);
    due("safe(1, 1, 60)", x.safe(1, 1, 60), 0);
    askAndSilence();
  }

  private static void askAndSilence() {
    // the next HOUR counts by itself in (5): an ASK breaks no SILENCE
    FarMachine x = new FarMachine();
    x.set(8, 5);
    x.start();
    x.ask(2, 0, 0);
    x.ask(1, 0, 7);
    rule(x, "p=40");
    due("safe(0, 3, 1)", x.safe(0, 3, 1), 1);
    due("safe(0, 3, 2)", x.safe(0, 3, 2), 0);
    due("safe(1, 3, 2)", x.safe(1, 3, 2), 0);
    due("safe(0, 4, 1)", x.safe(0, 4, 1), 0);
    due("safe(0, 5, 4)", x.safe(0, 5, 4), 0);
    // an ASK comes ahead of what comes in (1)
    x = new FarMachine();
    x.set(9, 2);
    x.command(1, 0, 30);
    x.start();
    x.ask(1, 0, 20);
    rule(x, "p=30");
    due("safe(0, 1, 1)", x.safe(0, 1, 1), 1);
    due("safe(0, 2, 1)", x.safe(0, 2, 1), 0);
    due("safe(0, 3, 1)", x.safe(0, 3, 1), 1);
    // kind 1 ends REST
    x = new FarMachine();
    x.set(5, 31);
    x.word(20, SET + 2);
    x.start();
    x.ask(1, 0, 20);
    x.ask(0, 0, SET + 2);
    rule(x, "a=2");
    due("safe(0, 1, 1)", x.safe(0, 1, 1), 0);
    due("safe(1, 1, 30)", x.safe(1, 1, 30), 1);
    due("safe(1, 1, 31)", x.safe(1, 1, 31), 0);
  }

  private static void p24() {
    promise = "24 parts";
    FarMachine x = asked();
    due("parts(0, 1, 60)", x.parts(0, 1, 60), 1);
    due("parts(1, 1, 1)", x.parts(1, 1, 1), 1);
    due("parts(1, 1, 3)", x.parts(1, 1, 3), 4);
    due("parts(2, 1, 60)", x.parts(2, 1, 60), 1);
    due("parts(3, 1, 60)", x.parts(3, 1, 60), 1);
    rule(x, "h>0");
    due("parts(1, 1, 3) of one that is not SAFE", x.parts(1, 1, 3), 4);
    due("parts(4, 1, 1)", x.parts(4, 1, 1), -1);
    due("parts(0, 1, 0)", x.parts(0, 1, 0), -4);
    due("parts(0, 1, 61)", x.parts(0, 1, 61), -6);
    x.put(1);
    due("parts(0, 1, 1): none FITS", x.parts(0, 1, 1), -3);
    refused(x, 1, 0, 1, 1, 0, 1);
    x = new FarMachine();
    x.ask(2, 0, 0);
    due("parts(0, 1, 1) without START", x.parts(0, 1, 1), -3);
    // rows that differ by their length alone, of bytes that are 0
    x = talker();
    words(x, 10, SEND + 5, WAIT + 0);
    x.suspect(11, 7);
    x.suspect(11, 6);
    x.suspect(11, 5);
    x.suspect(10, 0);
    x.start();
    x.ask(1, 0, 10);
    due("parts(0, 1, 1)", x.parts(0, 1, 1), 2);
    // behind it 0, 0 and HEAT, or 0 alone, or PLACE first
    due("parts(0, 1, 2)", x.parts(0, 1, 2), 4);
    allParts();
  }

  /** Eight SUSPECTS in one WORD that is SENT: each STATE has a row of its own. */
  private static void allParts() {
    FarMachine x = talker();
    for (int bit = 0; bit < 8; bit++) {
      x.suspect(24, bit);
    }
    words(x, 10, SEND + 8, SET + 1, JUMP + 10);
    x.start();
    x.ask(1, 0, 10);
    due("fitting(60, 0)", x.fitting(60, 0), 256);
    due("parts(0, 60, 60)", x.parts(0, 60, 60), 256);
    due("parts(0, 60, 60) once more", x.parts(0, 60, 60), 256);
    due("best(60, 60)", x.best(60, 60), 0);
  }

  private static void p25() {
    promise = "25 best";
    FarMachine x = asked();
    due("best(1, 3)", x.best(1, 3), 1);
    due("best(1, 1): all have one, the first", x.best(1, 1), 0);
    rule(x, "a=3");
    due("best(1, 1): 0 is not SAFE", x.best(1, 1), 1);
    rule(x, "a=17");
    due("best(1, 3): 1 is not SAFE", x.best(1, 3), 2);
    rule(x, "t>0");
    due("best(1, 3): none is SAFE", x.best(1, 3), -9);
    due("best(0, 1)", x.best(0, 1), -4);
    due("best(1, 0)", x.best(1, 0), -4);
    due("best(61, 1)", x.best(61, 1), -6);
    due("best(1, 61)", x.best(1, 61), -6);
    x.put(1);
    due("best(1, 1): none FITS", x.best(1, 1), -3);
    refused(x, 0, 0, 1, 2, 0, 2);
    x = new FarMachine();
    due("best(1, 1) without START", x.best(1, 1), -3);
    due("best(61, 1) without START", x.best(61, 1), -6);
    x.start();
    due("best(1, 1) without ASKS", x.best(1, 1), -9);
    x.put(1);
    due("best(1, 1) without ASKS, none FITS", x.best(1, 1), -3);
  }

  private static void p26() {
    promise = "26 hole";
    FarMachine x = new FarMachine();
    due("hole(0, 48)", x.hole(0, 48), 1);
    due("hole(47, 1)", x.hole(47, 1), 2);
    due("hole(47, 2)", x.hole(47, 2), -6);
    due("hole(1, 48)", x.hole(1, 48), -6);
    due("hole(1, 2^31 - 1)", x.hole(1, Integer.MAX_VALUE), -6);
    due("hole(-1, 0)", x.hole(-1, 0), -1);
    due("hole(48, 1)", x.hole(48, 1), -1);
    due("hole(3, 0)", x.hole(3, 0), -4);
    for (int i = 3; i <= 8; i++) {
      due("hole " + i, x.hole(i, 1), i);
    }
    due("hole, the ninth", x.hole(0, 1), -6);
    due("hole, the ninth with 0", x.hole(0, 0), -4);
    due("count(5)", x.count(5), 8);
    refused(x, 2, 0, 0, 2, 0, 4);
  }

  private static void p27() {
    promise = "27 fewest";
    FarMachine x = new FarMachine();
    due("fewest(1)", x.fewest(1), -9);
    due("fewest(0)", x.fewest(0), -4);
    due("fewest(41)", x.fewest(41), -6);
    x.hole(0, 4);
    x.hole(10, 1);
    x.hole(20, 6);
    x.hole(30, 6);
    x.hole(40, 3);
    due("fewest(1)", x.fewest(1), 1);
    due("fewest(4)", x.fewest(4), 1);
    due("fewest(5)", x.fewest(5), 4);
    due("fewest(6)", x.fewest(6), 4);
    due("fewest(7)", x.fewest(7), 5);
    due("fewest(9)", x.fewest(9), 5);
    due("fewest(10)", x.fewest(10), 12);
    due("fewest(11)", x.fewest(11), 12);
    due("fewest(12)", x.fewest(12), 13);
    due("fewest(14)", x.fewest(14), 13);
    due("fewest(15)", x.fewest(15), 29);
    due("fewest(16)", x.fewest(16), 29);
    due("fewest(17)", x.fewest(17), -9);
    due("fewest(40)", x.fewest(40), -9);
    x.hole(0, 48);
    due("fewest(40)", x.fewest(40), 32);
    refused(x, 0, 0, 0, 1, 0, 1);
    x = new FarMachine();
    for (int i = 0; i < 8; i++) {
      x.hole(6 * i, 3);
    }
    due("fewest(15)", x.fewest(15), 127);
    due("fewest(16)", x.fewest(16), 255);
    due("fewest(17)", x.fewest(17), 255);
    due("fewest(18)", x.fewest(18), -9);
  }

  private static void p28() {
    promise = "28 keep";
    FarMachine x = new FarMachine();
    due("keep(0): none is ON", x.keep(0), 0);
    x.box(0, BOX, true);
    x.box(1, TALKING, true);
    x.box(2, FEELING, true);
    x.box(3, BROKEN, true);
    x.box(4, WARMING, false);
    x.box(5, TURNING, true);
    // 1, 4, 2, 0 and 5 are 12
    due("keep(12)", x.keep(12), 0);
    due("keep(99)", x.keep(99), 0);
    due("keep(11)", x.keep(11), 1);
    due("keep(10)", x.keep(10), 2);
    due("keep(9)", x.keep(9), 2);
    due("keep(7)", x.keep(7), 32);
    due("keep(6)", x.keep(6), 6);
    due("keep(5)", x.keep(5), 34);
    due("keep(3)", x.keep(3), 34);
    due("keep(2)", x.keep(2), 35);
    due("keep(1)", x.keep(1), 38);
    due("keep(0)", x.keep(0), 39);
    due("keep(-1)", x.keep(-1), -4);
    due("keep(100)", x.keep(100), -6);
    state(x, 8, 47);
    refused(x, 0, 0, 0, 1, 0, 1);
  }

  private static void p29() {
    promise = "29 warm";
    FarMachine x = new FarMachine();
    due("warm(51)", x.warm(51), 0);
    due("warm(50)", x.warm(50), 1);
    due("warm(49)", x.warm(49), 1);
    due("warm(48)", x.warm(48), 2);
    due("warm(1)", x.warm(1), 25);
    due("warm(0)", x.warm(0), -9);
    due("warm(99)", x.warm(99), 0);
    due("warm(-1)", x.warm(-1), -4);
    due("warm(100)", x.warm(100), -6);
    x.box(0, SPARE, true);
    due("warm(1) with SPARE", x.warm(1), 50);
    x.box(1, SPARE, true);
    due("warm(50) with two", x.warm(50), -9);
    due("warm(51) with two", x.warm(51), 0);
    x.box(1, SPARE, false);
    x.box(1, BOX, true);
    x.set(6, 99);
    due("warm(1): BOXES stay below COLD", x.warm(1), 50);
    x.set(2, 99);
    due("warm(1) of 99", x.warm(1), 99);
    state(x, 2, 99);
    state(x, 6, 0);
    refused(x, 0, 0, 0, 1, 0, 1);
  }

  private static void p30() {
    promise = "30 aim";
    FarMachine x = new FarMachine();
    int[] dishes = {-20, -18, -17, -16, -5, -3, -2, -1, 0, 1, 2, 3, 7, 17, 18, 19, 20};
    int[] turns = {-9, -9, 31, 30, 19, 17, 16, 16, 16, 16, 16, 15, 11, 1, 0, -9, -9};
    for (int i = 0; i < dishes.length; i++) {
      x.set(4, dishes[i]);
      due("aim() from " + dishes[i], x.aim(), turns[i]);
    }
    x.set(4, 7);
    x.set(3, 5);
    due("aim() with FUEL 5", x.aim(), 11);
    x.set(3, 4);
    due("aim() with FUEL 4", x.aim(), -9);
    x.set(4, 2);
    x.set(3, 0);
    due("aim() without FUEL", x.aim(), 16);
    state(x, 4, 2);
    refused(x, 0, 0, 0, 0, 0, 0);
  }

  private static void p31() {
    promise = "31 unlike";
    FarMachine x = new FarMachine();
    due("unlike(-2)", x.unlike(-2), -1);
    due("unlike(-1) without START", x.unlike(-1), -3);
    due("unlike(0) without START", x.unlike(0), -3);
    x.word(3, 5);
    x.start();
    due("unlike(-1)", x.unlike(-1), 0);
    due("unlike(0)", x.unlike(0), -9);
    x.word(47, 1);
    x.word(0, 9);
    x.word(3, 6);
    due("unlike(-1)", x.unlike(-1), 3);
    due("unlike(0)", x.unlike(0), 0);
    due("unlike(1)", x.unlike(1), 3);
    due("unlike(2)", x.unlike(2), 47);
    due("unlike(3)", x.unlike(3), -9);
    due("unlike(2^31 - 1)", x.unlike(Integer.MAX_VALUE), -9);
    x.word(3, 5);
    due("unlike(-1)", x.unlike(-1), 2);
    due("unlike(-2)", x.unlike(-2), -1);
    refused(x, 2, 0, 2, 0, 0, 0);
    x.set(9, 0);
    x.command(0, 10, 200);
    x.hours(1);
    due("unlike(1) by a COMMAND", x.unlike(1), 10);
  }

  private static void p32() {
    promise = "32 image";
    FarMachine x = new FarMachine();
    due("image()", x.image(), 0);
    x.hours(7);
    due("image()", x.image(), 7);
    x.hours(2);
    due("on(): the newer one", x.on(), 7);
    due("image() anew", x.image(), 7);
    state(x, 6, 7);
    refused(x, 0, 0, 0, 0, 0, 0);
  }

  private static void p33() {
    promise = "33 on";
    FarMachine x = talker();
    due("on() without", x.on(), -3);
    words(x, 0, SEND + 6, SET + 9, WAIT + 5);
    x.hours(1);
    x.command(0, 30, 99);
    x.set(6, 3);
    x.image();
    int[] first = new int[10];
    for (int i = 0; i < 10; i++) {
      first[i] = x.state(i);
    }
    x.word(0, 1);
    x.box(5, TURNING, true);
    x.set(2, 20);
    x.set(3, 1);
    x.set(4, 9);
    x.set(6, 60);
    x.set(7, 1);
    x.set(8, 2);
    x.set(9, 1);
    x.command(1, 0, 3);
    x.word(3, SEND + 1);
    x.box(0, TALKING, true);
    x.set(0, 3);
    x.set(4, 0);
    x.hours(1);
    due("sent()", x.sent(), 2);
    x.hours(40);
    x.put(3);
    x.feed(2, 1L);
    x.wordOf(-1);
    for (int round = 0; round < 2; round++) {
      due("on()", x.on(), 1);
      for (int i = 0; i < 10; i++) {
        state(x, i, first[i]);
      }
      due("wordOf(0)", x.wordOf(0), SEND + 6);
      due("wordOf(30)", x.wordOf(30), 0);
      due("count(1)", x.count(1), 1);
      due("sent()", x.sent(), 1);
      due("count(6): THE ROW stays", x.count(6), 1);
      due("count(7): THE TAPE stays", x.count(7), 2);
      due("box(5)", x.box(5, BOX, false), 0);
      due("count(11): REFUSALS stay", x.count(11), 1 + round);
      due("count(13): REFUSALS stay", x.count(13), 1);
      x.hours(9);
      due("wordOf(30): under way", x.wordOf(30), 0);
      x.hours(1);
      due("wordOf(30): under way", x.wordOf(30), 99);
      due("heard(0)", x.heard(0), 0);
      due("heard(1)", x.heard(1), 1001);
      x.command(0, 29, 98);
      x.set(9, 0);
      x.word(3, SEND + 1);
      x.set(0, 3);
      x.set(5, 0);
      x.hours(1);
      due("heard(1): DELAY is 0", x.heard(1), 60);
      x.hours(8);
      due("wordOf(29): DELAY of then", x.wordOf(29), 0);
      x.hours(1);
      due("wordOf(29): DELAY of then", x.wordOf(29), 98);
      state(x, 4, 0);
      state(x, 8, 3);
      x.hours(30);
    }
    allIsAsThen();
  }

  private static void allIsAsThen() {
    FarMachine x = talker();
    x.image();
    fill(x);
    x.on();
    for (int what = 2; what <= 5; what++) {
      due("count(" + what + ")", x.count(what), 0);
    }
    due("fits(0, 1): no START then", x.fits(0, 1), -3);
    fill(x);
    x.image();
    x.suspect(8, 1);
    x.word(8, 8);
    x.start();
    rule(x, "h<0");
    x.ask(2, 0, 0);
    x.hole(1, 1);
    x.on();
    for (int what = 2; what <= 5; what++) {
      due("count(" + what + ")", x.count(what), 1);
    }
    x.word(8, 8);
    due("unlike(0): THE START of then", x.unlike(0), 8);
    due("suspect, again", x.suspect(9, 2), 1);
    due("suspect of then", x.suspect(7, 1), -3);
    due("suspect, twice", x.suspect(9, 2), -3);
    due("suspect, again", x.suspect(8, 1), 2);
    due("a RULE, again", rule(x, "h>0"), 1);
    due("holds(1)", x.holds(1), 1);
    x.on();
    due("holds(0)", x.holds(0), 0);
  }

  private static void fill(FarMachine x) {
    x.start();
    x.suspect(7, 1);
    rule(x, "h=0");
    x.ask(1, 0, 0);
    x.hole(2, 2);
  }

  private static void p34() {
    promise = "34 count";
    FarMachine x = new FarMachine();
    x.hours(12);
    x.command(2, 0, 0);
    x.command(2, 0, 0);
    x.suspect(1, 1);
    rule(x, "h<1");
    rule(x, "h<2");
    rule(x, "h<3");
    x.ask(2, 0, 0);
    x.ask(2, 0, 0);
    x.hole(0, 2);
    x.put(1);
    x.put(2);
    x.feed(5, 0L);
    int[] want = {12, 2, 1, 3, 2, 1, 2, 5};
    for (int what = 0; what < want.length; what++) {
      due("count(" + what + ")", x.count(what), want[what]);
    }
    int[] none = {-1, 8, 9, 10, 17, Integer.MAX_VALUE, Integer.MIN_VALUE};
    for (int what : none) {
      due("count(" + what + ")", x.count(what), -9);
    }
    x.wordOf(99);
    x.state(99);
    x.fits(0, 1);
    x.felt(-1);
    x.felt(99);
    x.heard(99);
    refused(x, 2, 1, 1, 1, 0, 1);
  }

  /** HOUR is 2000 at most: HOURS go by, but a byte that is HEARD as HOUR is more is not HEARD. */
  private static void atTheLastHour() {
    promise = "the last hour";
    FarMachine x = talker();
    x.set(8, 999);
    x.hours(1999);
    x.set(0, 0);
    words(x, 0, SEND + 5, SEND + 5, SET + 2, WAIT + 0);
    x.set(4, 0);
    x.box(0, TALKING, true);
    x.set(9, 0);
    x.hours(1);
    state(x, 6, 2000);
    due("heard(0)", x.heard(0), 0);
    x.set(9, 1);
    x.hours(1);
    x.command(0, 30, 1);
    x.set(9, 0);
    x.command(0, 31, 1);
    x.hours(30);
    due("sent()", x.sent(), 2);
    due("heard(1)", x.heard(1), 1001);
    due("wordOf(30)", x.wordOf(30), 1);
    due("wordOf(31)", x.wordOf(31), 1);
    due("count(1)", x.count(1), 0);
    state(x, 1, 2);
    state(x, 6, 2000);
  }

  /** COMMANDS come DELAY HOURS later, HOURS that go by at HOUR 2000 too. */
  private static void commandsAtTheLastHour() {
    promise = "9 command: the last hour";
    FarMachine x = new FarMachine();
    x.set(8, 999);
    x.hours(1995);
    // sent ahead of HOUR 2000, come behind it
    due("command(0, 3, 33)", x.command(0, 3, 33), 1);
    x.set(9, 5);
    due("command(0, 4, 44)", x.command(0, 4, 44), 2);
    x.hours(5);
    due("wordOf(4)", x.wordOf(4), 0);
    x.hours(1);
    due("wordOf(4)", x.wordOf(4), 44);
    due("count(1)", x.count(1), 1);
    x.hours(3);
    due("wordOf(3)", x.wordOf(3), 0);
    x.hours(1);
    due("wordOf(3)", x.wordOf(3), 33);
    due("count(1)", x.count(1), 0);
    state(x, 9, 0);
    // each by its own DELAY, each HOUR one more or none
    for (int delay = 20; delay >= 0; delay--) {
      x.set(9, delay);
      x.command(0, delay, 100 + delay);
    }
    for (int delay = 0; delay <= 20; delay++) {
      due("count(1)", x.count(1), 21 - delay);
      x.hours(1);
      due("wordOf(" + delay + ")", x.wordOf(delay), 100 + delay);
      due("wordOf(" + (delay + 1) + ")", x.wordOf(delay + 1), delay == 2 ? 33 : delay == 3 ? 44 : 0);
      state(x, 9, 0);
    }
    x.hours(1);
    state(x, 9, 1);
    state(x, 6, 2000);
  }

  /** THE START, THE IMAGE and TRIED have what is under way at HOUR 2000 too. */
  private static void underWayAtTheLastHour() {
    promise = "9 command: under way at the last hour";
    FarMachine x = talker();
    x.set(8, 999);
    x.hours(2000);
    x.set(0, 0);
    x.set(1, 7);
    x.set(4, 0);
    x.box(0, TALKING, true);
    x.set(9, 3);
    x.command(1, 0, 20);
    x.word(20, SEND + 5);
    x.hours(1);
    x.start();
    x.image();
    x.put(7);
    due("fits(0, 2)", x.fits(0, 2), 0);
    due("fits(0, 3)", x.fits(0, 3), 1);
    due("rule p=21", rule(x, "p=21"), 0);
    due("broken(0, 2)", x.broken(0, 2), -9);
    due("broken(0, 3)", x.broken(0, 3), 200);
    x.hours(3);
    due("count(1)", x.count(1), 0);
    state(x, 0, 21);
    due("on()", x.on(), 2000);
    due("count(1)", x.count(1), 1);
    x.hours(2);
    state(x, 0, 0);
    x.hours(1);
    state(x, 0, 21);
  }
}
