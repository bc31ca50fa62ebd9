import java.util.ArrayList;
import java.util.List;
import java.util.function.Supplier;
import java.util.function.ToIntFunction;

/**
 * REFUSALS of each promise in ../shared/DOC.md: each number that a call can be refused with, at its
 * edge and far beyond, the order in which they are told, and the least and greatest that is taken.
 * Behind each refused call the object is held against a twin that did not have it: only how many
 * REFUSALS there were may be another.
 */
public final class RefusalsTest {
  private static final int MIN = Integer.MIN_VALUE;
  private static final int MAX = Integer.MAX_VALUE;

  private static int wrong = 0;
  private static int asked = 0;
  private static String promise = "";
  private static Supplier<FarMachine> made = FarMachine::new;

  private static void fault(String what) {
    wrong++;
    System.out.println(promise + ": " + what);
  }

  /** A call that is refused with a number of -1 .. -6. */
  private static void refused(int number, String name, ToIntFunction<FarMachine> call) {
    held(number, number, name, call);
  }

  /** A call of state, felt or heard. */
  private static void refusedFar(int number, String name, ToIntFunction<FarMachine> call) {
    held(1000 - number, number, name, call);
  }

  private static void held(int want, int number, String name, ToIntFunction<FarMachine> call) {
    asked++;
    FarMachine x = made.get();
    FarMachine twin = made.get();
    int got = call.applyAsInt(x);
    if (got != want) {
      fault(name + " answered " + got + ", due is " + want);
      return;
    }
    for (int code = 1; code <= 6; code++) {
      int more = x.count(10 + code) - twin.count(10 + code);
      if (more != (code == -number ? 1 : 0)) {
        fault(name + " counted " + more + " REFUSALS -" + code + " more");
      }
    }
    if (!answers(x).equals(answers(twin))) {
      fault(name + " changed something");
    }
  }

  /** A call that is taken, or answers -9 or a FAULT: no REFUSAL is counted. */
  private static void taken(int want, String name, ToIntFunction<FarMachine> call) {
    asked++;
    FarMachine x = made.get();
    int[] before = new int[6];
    for (int i = 0; i < 6; i++) {
      before[i] = x.count(11 + i);
    }
    int got = call.applyAsInt(x);
    if (got != want) {
      fault(name + " answered " + got + ", due is " + want);
    }
    for (int i = 0; i < 6; i++) {
      if (x.count(11 + i) != before[i]) {
        fault(name + " counted a REFUSAL -" + (i + 1));
      }
    }
  }

  private static void feed(FarMachine x, String text) {
    for (int i = 0; i < text.length(); i++) {
      x.feed(1, text.charAt(i));
    }
  }

  /** Some of all; five bytes are SENT and two of them HEARD; two of four STATES FIT in an HOUR. */
  private static FarMachine told() {
    FarMachine x = new FarMachine();
    x.box(0, 1, true);
    x.box(1, 4, true);
    x.box(5, 5, true);
    x.box(6, 3, true);
    for (int at = 0; at < 48; at++) {
      x.word(at, 224 + at % 24);
    }
    x.set(9, 3);
    x.image();
    x.hours(5);
    x.set(4, 2);
    x.start();
    x.command(0, 20, 33);
    x.command(1, 0, 10);
    x.suspect(5, 0);
    x.suspect(47, 7);
    x.put(0);
    feed(x, "h>90");
    x.rule();
    feed(x, "t=9&p<30");
    x.rule();
    feed(x, "d=1&");
    x.ask(1, 0, 30);
    x.ask(0, 6, 225);
    x.hole(3, 5);
    x.hole(40, 8);
    x.unput();
    x.put(0);
    x.wordOf(-1);
    return x;
  }

  /** As much of all as there can be. */
  private static FarMachine full() {
    FarMachine x = new FarMachine();
    x.box(0, 1, true);
    x.box(1, 4, true);
    x.word(0, 225);
    x.word(1, 33);
    x.word(2, 160);
    x.set(7, 99);
    x.set(9, 0);
    x.hours(200);
    x.set(9, 20);
    for (int i = 0; i < 30; i++) {
      x.command(0, i, i);
    }
    for (int i = 0; i < 8; i++) {
      x.suspect(40, i);
      x.hole(6 * i, 3);
    }
    for (int i = 0; i < 40; i++) {
      x.put(60);
    }
    for (int i = 0; i < 10; i++) {
      feed(x, "h=" + i);
      x.rule();
    }
    for (int i = 0; i < 6; i++) {
      x.ask(1, 0, i);
    }
    feed(x, "h<f&h<f&h<f&h<f&h<f&h<f&h<f&h<");
    return x;
  }

  /** What an object answers to a long row of calls, those that change it the last. */
  private static List<Integer> answers(FarMachine x) {
    List<Integer> all = new ArrayList<>();
    for (int i = 0; i < 48; i++) {
      all.add(x.wordOf(i));
    }
    for (int i = 0; i < 10; i++) {
      all.add(x.state(i));
      all.add(x.holds(i));
      all.add(x.count(i));
    }
    for (int i = 0; i < 8; i++) {
      all.add(x.felt(i));
      all.add(x.heard(i));
    }
    all.add(x.sent());
    all.add(x.unlike(-1));
    all.add(x.fits(0, 1));
    all.add(x.fits(3, 40));
    all.add(x.broken(1, 60));
    for (int i = 0; i < 4; i++) {
      all.add(x.fitting(1, i));
    }
    all.add(x.best(1, 20));
    for (int i = 0; i < 6; i++) {
      all.add(x.safe(i, 1, 20));
      all.add(x.parts(i, 1, 20));
    }
    for (int i = 1; i < 20; i += 3) {
      all.add(x.fewest(i));
      all.add(x.keep(i));
    }
    all.add(x.aim());
    all.add(x.warm(20));
    all.add(x.unput());
    all.add(x.rule());
    for (int i = 0; i < 4; i++) {
      all.add(x.hours(1 + 5 * i));
      all.add(x.state(0));
      all.add(x.state(1));
      all.add(x.state(2));
      all.add(x.state(4));
      all.add(x.state(8));
      all.add(x.state(9));
      all.add(x.sent());
      all.add(x.heard(3));
      all.add(x.count(1));
    }
    for (int i = 0; i < 8; i++) {
      all.add(x.box(i, 0, false));
    }
    all.add(x.on());
    all.add(x.state(6));
    all.add(x.state(8));
    all.add(x.wordOf(7));
    all.add(x.count(2));
    return all;
  }

  private static void of(String name, Supplier<FarMachine> supplier) {
    promise = name;
    made = supplier;
  }

  public static void main(String[] args) {
    word(); box(); set(); stateAndFelt(); hours(); command(); heard(); suspect(); row();
    fits(); fitting(); tape(); rules(); broken(); ask(); safe(); parts(); best();
    holes(); numbers(); unlike(); image(); never(); counted();
    System.out.println(asked + " calls refused and taken, " + wrong + " wrong");
    if (wrong != 0) {
      System.exit(1);
    }
  }

  private static void word() {
    of("2 word: -1; -4; -6", RefusalsTest::told);
    int[] nobody = {-1, 48, MIN, MAX};
    for (int at : nobody) {
      refused(-1, "word(" + at + ", 0)", x -> x.word(at, 0));
      refused(-1, "word(" + at + ", -1)", x -> x.word(at, -1));
      refused(-1, "word(" + at + ", 256)", x -> x.word(at, 256));
    }
    refused(-4, "word(0, -1)", x -> x.word(0, -1));
    refused(-4, "word(47, MIN)", x -> x.word(47, MIN));
    refused(-6, "word(0, 256)", x -> x.word(0, 256));
    refused(-6, "word(47, MAX)", x -> x.word(47, MAX));
    taken(224, "word(0, 0)", x -> x.word(0, 0));
    taken(247, "word(47, 255)", x -> x.word(47, 255));
    promise = "3 wordOf: -1";
    for (int at : nobody) {
      refused(-1, "wordOf(" + at + ")", x -> x.wordOf(at));
    }
    taken(224, "wordOf(0)", x -> x.wordOf(0));
    taken(247, "wordOf(47)", x -> x.wordOf(47));
  }

  private static void box() {
    of("4 box: -1; -2", RefusalsTest::told);
    boolean[] both = {true, false};
    for (boolean on : both) {
      int[] nobody = {-1, 8, MIN, MAX};
      for (int box : nobody) {
        refused(-1, "box(" + box + ", 0)", x -> x.box(box, 0, on));
        refused(-1, "box(" + box + ", 8)", x -> x.box(box, 8, on));
        refused(-1, "box(" + box + ", -1)", x -> x.box(box, -1, on));
      }
      int[] other = {-1, 8, MIN, MAX};
      for (int kind : other) {
        refused(-2, "box(0, " + kind + ")", x -> x.box(0, kind, on));
        refused(-2, "box(7, " + kind + ")", x -> x.box(7, kind, on));
      }
      taken(1, "box(0, 0)", x -> x.box(0, 0, on));
      taken(0, "box(7, 7)", x -> x.box(7, 7, on));
    }
  }

  private static void set() {
    of("5 set: -2; -4; -6", RefusalsTest::told);
    int[] other = {-1, 10, MIN, MAX};
    for (int what : other) {
      refused(-2, "set(" + what + ", 1)", x -> x.set(what, 1));
      refused(-2, "set(" + what + ", MIN)", x -> x.set(what, MIN));
      refused(-2, "set(" + what + ", MAX)", x -> x.set(what, MAX));
    }
    int[] least = {0, -128, 0, 0, -20, 0, 0, 1, 1, 0};
    int[] most = {47, 127, 99, 99, 20, 31, 99, 99, 999, 20};
    for (int i = 0; i < 10; i++) {
      int what = i;
      refused(-4, "set(" + what + ", below)", x -> x.set(what, least[what] - 1));
      refused(-4, "set(" + what + ", MIN)", x -> x.set(what, MIN));
      refused(-6, "set(" + what + ", above)", x -> x.set(what, most[what] + 1));
      refused(-6, "set(" + what + ", MAX)", x -> x.set(what, MAX));
      taken(1, "set(" + what + ", least)", x -> x.set(what, least[what]));
      taken(1, "set(" + what + ", most)", x -> x.set(what, most[what]));
    }
  }

  private static void stateAndFelt() {
    of("6 state: refused as told: -2", RefusalsTest::told);
    int[] other = {-1, 10, 11, MIN, MAX};
    for (int what : other) {
      refusedFar(-2, "state(" + what + ")", x -> x.state(what));
    }
    taken(5, "state(0)", x -> x.state(0));
    taken(5, "state(9)", x -> x.state(9));
    of("7 felt: refused as told: -4; -6 31", RefusalsTest::told);
    refusedFar(-4, "felt(-1)", x -> x.felt(-1));
    refusedFar(-4, "felt(MIN)", x -> x.felt(MIN));
    refusedFar(-6, "felt(32)", x -> x.felt(32));
    refusedFar(-6, "felt(MAX)", x -> x.felt(MAX));
    taken(60, "felt(0)", x -> x.felt(0));
    taken(119, "felt(31)", x -> x.felt(31));
  }

  private static void hours() {
    of("8 hours: -4 below 1; -6 above 2000", RefusalsTest::told);
    int[] below = {0, -1, MIN};
    for (int n : below) {
      refused(-4, "hours(" + n + ")", x -> x.hours(n));
    }
    int[] above = {2001, 9999, MAX};
    for (int n : above) {
      refused(-6, "hours(" + n + ")", x -> x.hours(n));
    }
    taken(6, "hours(1)", x -> x.hours(1));
    taken(2000, "hours(2000)", x -> x.hours(2000));
  }

  /** command() and ask() are refused alike. */
  private interface Going {
    int go(FarMachine x, int kind, int where, int v);
  }

  private static void going(Going call, int[] taken) {
    int[] other = {-1, 3, MIN, MAX};
    for (int kind : other) {
      refused(-2, "(" + kind + ", 0, 0)", x -> call.go(x, kind, 0, 0));
      refused(-2, "(" + kind + ", 48, -1)", x -> call.go(x, kind, 48, -1));
    }
    int[] nobody = {-1, 48, MIN, MAX};
    for (int where : nobody) {
      refused(-1, "(0, " + where + ", 0)", x -> call.go(x, 0, where, 0));
      refused(-1, "(0, " + where + ", -1)", x -> call.go(x, 0, where, -1));
      refused(-1, "(0, " + where + ", 256)", x -> call.go(x, 0, where, 256));
      refused(-4, "(1, " + where + ", -1)", x -> call.go(x, 1, where, -1));
      refused(-6, "(1, " + where + ", 48)", x -> call.go(x, 1, where, 48));
    }
    refused(-4, "(0, 0, -1)", x -> call.go(x, 0, 0, -1));
    refused(-4, "(0, 47, MIN)", x -> call.go(x, 0, 47, MIN));
    refused(-4, "(1, 0, MIN)", x -> call.go(x, 1, 0, MIN));
    refused(-6, "(0, 0, 256)", x -> call.go(x, 0, 0, 256));
    refused(-6, "(0, 47, MAX)", x -> call.go(x, 0, 47, MAX));
    refused(-6, "(1, 0, 255)", x -> call.go(x, 1, 0, 255));
    refused(-6, "(1, 0, MAX)", x -> call.go(x, 1, 0, MAX));
    if (taken.length == 0) {
      // full: what is told ahead of it comes first
      refused(-6, "(0, 0, 0)", x -> call.go(x, 0, 0, 0));
      refused(-6, "(1, 0, 0)", x -> call.go(x, 1, 0, 0));
      refused(-6, "(2, 0, 0)", x -> call.go(x, 2, 0, 0));
      refused(-6, "(2, 48, MIN)", x -> call.go(x, 2, 48, MIN));
      return;
    }
    int[][] within = {{0, 0, 0}, {0, 47, 255}, {1, -1, 0}, {1, MIN, 47}, {1, MAX, 47}, {2, 0, 0}, {2, MIN, MIN}, {2, MAX, MAX}};
    for (int[] w : within) {
      taken(taken[0], "(" + w[0] + ", " + w[1] + ", " + w[2] + ")", x -> call.go(x, w[0], w[1], w[2]));
    }
  }

  private static void command() {
    of("9 command: -2; -1 (where: WORD of kind 0); -4; -6 (v: 0 .. 255, of kind 1 0 .. 47)", RefusalsTest::told);
    going(FarMachine::command, new int[] {3});
    of("9 command: -6 (30, too)", RefusalsTest::full);
    going(FarMachine::command, new int[0]);
    of("9 command: of a new object", FarMachine::new);
    going(FarMachine::command, new int[] {1});
  }

  private static void heard() {
    of("11 heard: refused as told: -1 none such", FarMachine::new);
    int[] nobody = {-1, 0, 60, MIN, MAX};
    for (int i : nobody) {
      refusedFar(-1, "heard(" + i + ")", x -> x.heard(i));
    }
    // SENT in the HOURS 0 .. 4 with a DELAY of 3, HEARD in HOUR 5 are those of 0, 1 and 2
    made = RefusalsTest::told;
    int[] beyond = {-1, 3, 4, 5, 59, 60, MIN, MAX};
    for (int i : beyond) {
      refusedFar(-1, "heard(" + i + ")", x -> x.heard(i));
    }
    taken(51 + 5 - 1, "heard(0)", x -> x.heard(0));
    taken(2 - 2, "heard(2)", x -> x.heard(2));
    made = RefusalsTest::full;
    refusedFar(-1, "heard(60)", x -> x.heard(60));
    taken(60, "heard(59)", x -> x.heard(59));
  }

  private static void suspect() {
    of("13 suspect: -1; -4; -6 (bit above 7; 8, too); -3 it is one", RefusalsTest::told);
    int[] nobody = {-1, 48, MIN, MAX};
    for (int word : nobody) {
      refused(-1, "suspect(" + word + ", 0)", x -> x.suspect(word, 0));
      refused(-1, "suspect(" + word + ", -1)", x -> x.suspect(word, -1));
      refused(-1, "suspect(" + word + ", 8)", x -> x.suspect(word, 8));
    }
    refused(-4, "suspect(0, -1)", x -> x.suspect(0, -1));
    refused(-4, "suspect(47, MIN)", x -> x.suspect(47, MIN));
    refused(-6, "suspect(0, 8)", x -> x.suspect(0, 8));
    refused(-6, "suspect(47, MAX)", x -> x.suspect(47, MAX));
    refused(-3, "suspect(5, 0)", x -> x.suspect(5, 0));
    refused(-3, "suspect(47, 7)", x -> x.suspect(47, 7));
    taken(2, "suspect(0, 0)", x -> x.suspect(0, 0));
    taken(2, "suspect(47, 0)", x -> x.suspect(47, 0));
    taken(2, "suspect(5, 7)", x -> x.suspect(5, 7));
    made = RefusalsTest::full;
    refused(-1, "suspect(48, 0), full", x -> x.suspect(48, 0));
    refused(-4, "suspect(0, -1), full", x -> x.suspect(0, -1));
    refused(-6, "suspect(0, 8), full", x -> x.suspect(0, 8));
    refused(-6, "suspect(0, 0), full", x -> x.suspect(0, 0));
    refused(-6, "suspect(40, 0), full and one", x -> x.suspect(40, 0));
  }

  private static void row() {
    of("14 put: -4; -6 (40, too)", RefusalsTest::told);
    refused(-4, "put(-129)", x -> x.put(-129));
    refused(-4, "put(MIN)", x -> x.put(MIN));
    refused(-6, "put(128)", x -> x.put(128));
    refused(-6, "put(MAX)", x -> x.put(MAX));
    taken(2, "put(-128)", x -> x.put(-128));
    taken(2, "put(127)", x -> x.put(127));
    taken(1, "unput()", FarMachine::unput);
    made = FarMachine::new;
    taken(0, "unput()", FarMachine::unput);
    made = RefusalsTest::full;
    refused(-4, "put(-129), full", x -> x.put(-129));
    refused(-6, "put(128), full", x -> x.put(128));
    refused(-6, "put(0), full", x -> x.put(0));
    taken(40, "unput()", FarMachine::unput);
  }

  private static void fits() {
    of("16 fits: -1; -4; -6; -3 no START", RefusalsTest::told);
    int[] nobody = {-1, 4, MIN, MAX};
    for (int state : nobody) {
      refused(-1, "fits(" + state + ", 1)", x -> x.fits(state, 1));
      refused(-1, "fits(" + state + ", 0)", x -> x.fits(state, 0));
      refused(-1, "fits(" + state + ", 61)", x -> x.fits(state, 61));
    }
    tooFewOrMany("fits(3, n)", (x, n) -> x.fits(3, n));
    taken(1, "fits(0, 1)", x -> x.fits(0, 1));
    taken(0, "fits(3, 60)", x -> x.fits(3, 60));
    made = FarMachine::new;
    refused(-1, "fits(1, 1), no START", x -> x.fits(1, 1));
    tooFewOrMany("fits(0, n), no START", (x, n) -> x.fits(0, n));
    refused(-3, "fits(0, 1), no START", x -> x.fits(0, 1));
    refused(-3, "fits(0, 60), no START", x -> x.fits(0, 60));
    made = RefusalsTest::full;
    refused(-1, "fits(256, 1), no START", x -> x.fits(256, 1));
    refused(-3, "fits(255, 1), no START", x -> x.fits(255, 1));
  }

  private interface Tried {
    int go(FarMachine x, int n);
  }

  /** n or m, which are HOURS of 1 .. 60. */
  private static void tooFewOrMany(String name, Tried call) {
    int[] below = {0, -1, MIN};
    for (int n : below) {
      refused(-4, name + " of " + n, x -> call.go(x, n));
    }
    int[] above = {61, 2000, MAX};
    for (int n : above) {
      refused(-6, name + " of " + n, x -> call.go(x, n));
    }
  }

  private static void fitting() {
    of("17 fitting: -2; -4; -6; -3 no START", RefusalsTest::told);
    int[] other = {-1, 4, MIN, MAX};
    for (int what : other) {
      refused(-2, "fitting(1, " + what + ")", x -> x.fitting(1, what));
      refused(-2, "fitting(0, " + what + ")", x -> x.fitting(0, what));
      refused(-2, "fitting(61, " + what + ")", x -> x.fitting(61, what));
    }
    for (int i = 0; i < 4; i++) {
      int what = i;
      made = RefusalsTest::told;
      tooFewOrMany("fitting(n, " + what + ")", (x, n) -> x.fitting(n, what));
      taken(what == 0 ? 0 : -9, "fitting(60, " + what + ")", x -> x.fitting(60, what));
      made = FarMachine::new;
      tooFewOrMany("fitting(n, " + what + "), no START", (x, n) -> x.fitting(n, what));
      refused(-3, "fitting(1, " + what + "), no START", x -> x.fitting(1, what));
      refused(-3, "fitting(60, " + what + "), no START", x -> x.fitting(60, what));
    }
    refused(-2, "fitting(1, 4), no START", x -> x.fitting(1, 4));
    made = RefusalsTest::told;
    int[] want = {2, 0, 2, 0};
    for (int i = 0; i < 4; i++) {
      int what = i;
      taken(want[what], "fitting(1, " + what + ")", x -> x.fitting(1, what));
    }
  }

  private static void tape() {
    of("18 feed: -4; -6 (n; above 30)", RefusalsTest::told);
    long[] bytes = {0L, -1L, Long.MIN_VALUE, Long.MAX_VALUE};
    for (long all : bytes) {
      int[] below = {0, -1, MIN};
      for (int n : below) {
        refused(-4, "feed(" + n + ", " + all + ")", x -> x.feed(n, all));
      }
      int[] above = {9, 30, MAX};
      for (int n : above) {
        refused(-6, "feed(" + n + ", " + all + ")", x -> x.feed(n, all));
      }
      taken(5, "feed(1, " + all + ")", x -> x.feed(1, all));
      taken(12, "feed(8, " + all + ")", x -> x.feed(8, all));
    }
    for (int i = 1; i <= 8; i++) {
      int n = i;
      made = () -> taped(30 - n);
      taken(30, "feed(" + n + ", 0) of " + (30 - n), x -> x.feed(n, 0L));
      made = () -> taped(31 - n);
      refused(-6, "feed(" + n + ", 0) of " + (31 - n), x -> x.feed(n, 0L));
      refused(-4, "feed(0, 0) of " + (31 - n), x -> x.feed(0, 0L));
      refused(-6, "feed(9, 0) of " + (31 - n), x -> x.feed(9, 0L));
    }
  }

  private static FarMachine taped(int many) {
    FarMachine x = new FarMachine();
    for (int i = 0; i < many; i++) {
      x.feed(1, i % 4 == 3 ? '&' : i % 2 == 0 ? 'h' : '=');
    }
    return x;
  }

  private static void rules() {
    of("19 rule: -6 10. (Refused: THE TAPE stays.)", RefusalsTest::full);
    refused(-6, "rule() of a FAULT, full", FarMachine::rule);
    made = () -> {
      FarMachine x = full();
      x.rule();
      return x;
    };
    refused(-6, "rule(), full, again", FarMachine::rule);
    made = RefusalsTest::tenRules;
    refused(-6, "rule() of an empty TAPE, full", FarMachine::rule);
    made = () -> {
      FarMachine x = tenRules();
      feed(x, "h<f");
      return x;
    };
    refused(-6, "rule() of a TEXT, full", FarMachine::rule);
    of("19 rule: a FAULT (nothing is counted)", RefusalsTest::told);
    taken(-24, "rule() of a FAULT", FarMachine::rule);
    made = FarMachine::new;
    taken(-20, "rule() of an empty TAPE", FarMachine::rule);
    made = () -> taped(3);
    taken(0, "rule() of a TEXT", FarMachine::rule);
    of("20 holds: -1", RefusalsTest::told);
    int[] nobody = {-1, 2, 10, MIN, MAX};
    for (int rule : nobody) {
      refused(-1, "holds(" + rule + ")", x -> x.holds(rule));
    }
    taken(0, "holds(0)", x -> x.holds(0));
    taken(0, "holds(1)", x -> x.holds(1));
    made = FarMachine::new;
    refused(-1, "holds(0), no RULE", x -> x.holds(0));
    made = RefusalsTest::full;
    refused(-1, "holds(10), full", x -> x.holds(10));
    taken(0, "holds(9), full", x -> x.holds(9));
  }

  private static FarMachine tenRules() {
    FarMachine x = new FarMachine();
    for (int i = 0; i < 10; i++) {
      feed(x, "h=" + i);
      x.rule();
    }
    return x;
  }

  private static void broken() {
    of("21 broken: -1; -4; -6; -3 no START", RefusalsTest::told);
    int[] nobody = {-1, 4, MIN, MAX};
    for (int state : nobody) {
      refused(-1, "broken(" + state + ", 1)", x -> x.broken(state, 1));
      refused(-1, "broken(" + state + ", 0)", x -> x.broken(state, 0));
      refused(-1, "broken(" + state + ", 61)", x -> x.broken(state, 61));
    }
    tooFewOrMany("broken(3, n)", (x, n) -> x.broken(3, n));
    taken(-9, "broken(0, 1)", x -> x.broken(0, 1));
    taken(301, "broken(3, 60)", x -> x.broken(3, 60));
    made = FarMachine::new;
    refused(-1, "broken(1, 1), no START", x -> x.broken(1, 1));
    tooFewOrMany("broken(0, n), no START", (x, n) -> x.broken(0, n));
    refused(-3, "broken(0, 1), no START", x -> x.broken(0, 1));
    refused(-3, "broken(0, 60), no START", x -> x.broken(0, 60));
  }

  private static void ask() {
    of("22 ask: refused as command()", RefusalsTest::told);
    going(FarMachine::ask, new int[] {2});
    of("22 ask: refused as command() (6 in place of 30)", RefusalsTest::full);
    going(FarMachine::ask, new int[0]);
    of("22 ask: of a new object", FarMachine::new);
    going(FarMachine::ask, new int[] {0});
    // one of them is full, not the other
    of("22 ask: 30 under way are no 6 ASKS", () -> filled(30, 0));
    taken(0, "ask(2, 0, 0)", x -> x.ask(2, 0, 0));
    refused(-6, "command(2, 0, 0)", x -> x.command(2, 0, 0));
    of("9 command: 6 ASKS are no 30 under way", () -> filled(29, 6));
    taken(30, "command(2, 0, 0)", x -> x.command(2, 0, 0));
    refused(-6, "ask(2, 0, 0)", x -> x.ask(2, 0, 0));
  }

  private static FarMachine filled(int commands, int asks) {
    FarMachine x = new FarMachine();
    for (int i = 0; i < commands; i++) {
      x.command(2, 0, 0);
    }
    for (int i = 0; i < asks; i++) {
      x.ask(2, 0, 0);
    }
    return x;
  }

  private interface Judged {
    int go(FarMachine x, int ask, int n, int m);
  }

  /** safe(), parts() and best(), which has no ASK, are refused alike. */
  private static void judged(String name, boolean ofAsk, Judged call) {
    promise = name + ": -1; -4; -6; -3 no START, none FITS";
    made = RefusalsTest::told;
    int[] nobody = {-1, 2, 6, MIN, MAX};
    for (int ask : nobody) {
      if (ofAsk) {
        refused(-1, "(" + ask + ", 1, 1)", x -> call.go(x, ask, 1, 1));
        refused(-1, "(" + ask + ", 0, 61)", x -> call.go(x, ask, 0, 61));
      }
    }
    hoursOf(call);
    // THE ROW is of one HOUR: in two no STATE FITS
    refused(-3, "(0, 2, 1): none FITS", x -> call.go(x, 0, 2, 1));
    refused(-3, "(1, 60, 60): none FITS", x -> call.go(x, 1, 60, 60));
    made = () -> {
      FarMachine x = told();
      x.put(5);
      return x;
    };
    hoursOf(call);
    refused(-3, "(0, 1, 1): none FITS", x -> call.go(x, 0, 1, 1));
    made = RefusalsTest::full;
    hoursOf(call);
    refused(-3, "(0, 1, 1): no START", x -> call.go(x, 0, 1, 1));
    refused(-3, "(5, 60, 60): no START", x -> call.go(x, 5, 60, 60));
    if (ofAsk) {
      refused(-1, "(6, 1, 1): no START", x -> call.go(x, 6, 1, 1));
      made = FarMachine::new;
      refused(-1, "(0, 1, 1): no ASK", x -> call.go(x, 0, 1, 1));
      refused(-1, "(0, 0, 0): no ASK", x -> call.go(x, 0, 0, 0));
    }
  }

  private static void hoursOf(Judged call) {
    tooFewOrMany("(0, n, 1)", (x, n) -> call.go(x, 0, n, 1));
    tooFewOrMany("(0, 1, m)", (x, m) -> call.go(x, 0, 1, m));
    refused(-4, "(0, 0, 61)", x -> call.go(x, 0, 0, 61));
    refused(-4, "(0, 61, 0)", x -> call.go(x, 0, 61, 0));
    refused(-4, "(0, MAX, MIN)", x -> call.go(x, 0, MAX, MIN));
    refused(-6, "(0, 61, 61)", x -> call.go(x, 0, 61, 61));
  }

  private static void safe() {
    judged("23 safe", true, FarMachine::safe);
    made = RefusalsTest::told;
    taken(1, "safe(0, 1, 1)", x -> x.safe(0, 1, 1));
    taken(0, "safe(1, 1, 60)", x -> x.safe(1, 1, 60));
  }

  private static void parts() {
    judged("24 parts", true, FarMachine::parts);
    made = RefusalsTest::told;
    taken(1, "parts(0, 1, 1)", x -> x.parts(0, 1, 1));
    taken(1, "parts(1, 1, 1)", x -> x.parts(1, 1, 1));
  }

  private static void best() {
    judged("25 best", false, (x, ask, n, m) -> x.best(n, m));
    made = RefusalsTest::told;
    taken(0, "best(1, 1)", x -> x.best(1, 1));
    taken(-9, "best(1, 60)", x -> x.best(1, 60));
    made = FarMachine::new;
    refused(-3, "best(1, 1): no START, no ASK", x -> x.best(1, 1));
    made = () -> {
      FarMachine x = new FarMachine();
      x.start();
      return x;
    };
    taken(-9, "best(1, 1): no ASK", x -> x.best(1, 1));
  }

  private static void holes() {
    of("26 hole: -1 (from no WORD); -4 many below 1; -6 (beyond WORDS; 8, too)", RefusalsTest::told);
    int[] nobody = {-1, 48, MIN, MAX};
    for (int from : nobody) {
      refused(-1, "hole(" + from + ", 1)", x -> x.hole(from, 1));
      refused(-1, "hole(" + from + ", 0)", x -> x.hole(from, 0));
      refused(-1, "hole(" + from + ", MAX)", x -> x.hole(from, MAX));
    }
    int[] below = {0, -1, MIN};
    for (int many : below) {
      refused(-4, "hole(0, " + many + ")", x -> x.hole(0, many));
      refused(-4, "hole(47, " + many + ")", x -> x.hole(47, many));
    }
    for (int i = 0; i < 48; i++) {
      int from = i;
      refused(-6, "hole(" + from + ", beyond)", x -> x.hole(from, 49 - from));
      taken(3, "hole(" + from + ", to the end)", x -> x.hole(from, 48 - from));
      taken(3, "hole(" + from + ", 1)", x -> x.hole(from, 1));
    }
    refused(-6, "hole(0, MAX)", x -> x.hole(0, MAX));
    refused(-6, "hole(47, MAX)", x -> x.hole(47, MAX));
    made = RefusalsTest::full;
    refused(-1, "hole(48, 1), full", x -> x.hole(48, 1));
    refused(-4, "hole(0, 0), full", x -> x.hole(0, 0));
    refused(-6, "hole(0, 49), full", x -> x.hole(0, 49));
    refused(-6, "hole(0, 1), full", x -> x.hole(0, 1));
  }

  private static void numbers() {
    of("27 fewest: -4; -6 (k: 1 .. 40)", RefusalsTest::told);
    int[] belowOne = {0, -1, MIN};
    for (int k : belowOne) {
      refused(-4, "fewest(" + k + ")", x -> x.fewest(k));
    }
    refused(-6, "fewest(41)", x -> x.fewest(41));
    refused(-6, "fewest(MAX)", x -> x.fewest(MAX));
    taken(1, "fewest(1)", x -> x.fewest(1));
    taken(-9, "fewest(40)", x -> x.fewest(40));
    of("28 keep: -4; -6 99", RefusalsTest::told);
    refused(-4, "keep(-1)", x -> x.keep(-1));
    refused(-4, "keep(MIN)", x -> x.keep(MIN));
    refused(-6, "keep(100)", x -> x.keep(100));
    refused(-6, "keep(MAX)", x -> x.keep(MAX));
    taken(99, "keep(0)", x -> x.keep(0));
    taken(0, "keep(99)", x -> x.keep(99));
    of("29 warm: -4; -6 99", RefusalsTest::told);
    refused(-4, "warm(-1)", x -> x.warm(-1));
    refused(-4, "warm(MIN)", x -> x.warm(MIN));
    refused(-6, "warm(100)", x -> x.warm(100));
    refused(-6, "warm(MAX)", x -> x.warm(MAX));
    taken(-9, "warm(0)", x -> x.warm(0));
    taken(0, "warm(99)", x -> x.warm(99));
  }

  private static void unlike() {
    of("31 unlike: -1 (i below -1); -3 no START", RefusalsTest::told);
    refused(-1, "unlike(-2)", x -> x.unlike(-2));
    refused(-1, "unlike(MIN)", x -> x.unlike(MIN));
    taken(0, "unlike(-1)", x -> x.unlike(-1));
    taken(-9, "unlike(0)", x -> x.unlike(0));
    taken(-9, "unlike(48)", x -> x.unlike(48));
    taken(-9, "unlike(MAX)", x -> x.unlike(MAX));
    made = FarMachine::new;
    refused(-1, "unlike(-2), no START", x -> x.unlike(-2));
    int[] all = {-1, 0, 47, 48, MAX};
    for (int i : all) {
      refused(-3, "unlike(" + i + "), no START", x -> x.unlike(i));
    }
  }

  private static void image() {
    of("33 on: -3 there is none", FarMachine::new);
    refused(-3, "on()", FarMachine::on);
    made = RefusalsTest::full;
    refused(-3, "on()", FarMachine::on);
    made = RefusalsTest::told;
    taken(0, "on()", FarMachine::on);
    promise = "32 image";
    taken(5, "image()", FarMachine::image);
    made = FarMachine::new;
    taken(0, "image()", FarMachine::image);
  }

  private static void never() {
    List<Supplier<FarMachine>> all = List.of(FarMachine::new, RefusalsTest::told, RefusalsTest::full);
    int[] sent = {0, 5, 60};
    int[] hour = {0, 5, 200};
    int[] aim = {16, 16, 10};
    for (int i = 0; i < 3; i++) {
      of("10 sent: never refused", all.get(i));
      taken(sent[i], "sent()", FarMachine::sent);
      promise = "12 start: never refused";
      taken(hour[i], "start()", FarMachine::start);
      promise = "30 aim: never refused";
      taken(aim[i], "aim()", i == 2 ? RefusalsTest::aimFromFar : FarMachine::aim);
      promise = "34 count: -9 for another what";
      int[] other = {-1, 8, 9, 10, 17, 18, MIN, MAX};
      for (int what : other) {
        taken(-9, "count(" + what + ")", x -> x.count(what));
      }
      taken(hour[i], "count(0)", x -> x.count(0));
    }
    of("34 count: as much as there can be", RefusalsTest::full);
    int[] most = {200, 30, 8, 10, 6, 8, 40, 30};
    for (int i = 0; i < 8; i++) {
      int what = i;
      taken(most[what], "count(" + what + ")", x -> x.count(what));
    }
  }

  private static int aimFromFar(FarMachine x) {
    x.set(4, 8);
    return x.aim();
  }

  private static void counted() {
    promise = "34 count: 11 .. 16 REFUSALS -1 .. -6";
    FarMachine x = new FarMachine();
    for (int i = 0; i < 80; i++) {
      x.wordOf(48);
      if (i % 2 == 0) {
        x.state(10);
      }
      if (i % 4 == 0) {
        x.on();
      }
      if (i % 5 == 0) {
        x.felt(-1);
      }
      if (i % 8 == 0) {
        x.felt(32);
      }
    }
    int[] want = {80, 40, 20, 16, 0, 10};
    for (int i = 0; i < 6; i++) {
      asked++;
      if (x.count(11 + i) != want[i]) {
        fault("count(" + (11 + i) + ") answered " + x.count(11 + i) + ", due is " + want[i]);
      }
    }
  }
}
