import java.util.ArrayList;
import java.util.HashSet;
import java.util.List;
import java.util.Set;

/**
 * Long mixed runs of calls, each answer held against a second, slow form of the document that
 * shares no code with FarMachine: maps of plain lists, copied whole, rules read anew each time.
 */
public final class ModelTest {
  private static final int RUNS = 150;
  /** Beyond 512 calls an object's answers are free, and one step makes up to 64 of them. */
  private static final int CALLS = 512 - 64;

  public static void main(String[] args) {
    for (int seed = 1; seed <= RUNS; seed++) {
      String fault = new Run(seed).go();
      if (fault != null) {
        System.out.println(fault);
        System.exit(1);
      }
    }
    System.out.println(RUNS + " runs of " + CALLS + " calls and some more answer as the model does");
  }

  /** One run of calls by a row of numbers that is the same each time. */
  private static final class Run {
    private final int seed;
    private long numbers;
    private final FarMachine real = new FarMachine();
    private final Model model = new Model();
    private final List<String> calls = new ArrayList<>();

    Run(int seed) {
      this.seed = seed;
      numbers = seed * 7919L + 17;
    }

    private int below(int n) {
      numbers = numbers * 6364136223846793005L + 1442695040888963407L;
      return (int) Long.remainderUnsigned(numbers >>> 20, n);
    }

    /** Mostly within, sometimes just beyond, seldom far out. */
    private int near(int least, int most) {
      int way = below(60);
      if (way == 0) {
        return least - 1;
      }
      if (way == 1) {
        return most + 1;
      }
      if (way == 2) {
        return below(2) == 0 ? Integer.MIN_VALUE : Integer.MAX_VALUE;
      }
      return least + below(most - least + 1);
    }

    String go() {
      if (seed % 3 != 0) {
        prepare();
      }
      while (calls.size() < CALLS) {
        if (!step()) {
          return "seed " + seed + ": " + String.join("\n", calls);
        }
      }
      return null;
    }

    private boolean same(String call, long got, long want) {
      calls.add(call + " answered " + got + ", the model " + want);
      return got == want;
    }

    /** A machine that talks, so that there is something to fit. */
    private void prepare() {
      box(0, 1, true);
      box(1, 4, true);
      box(2, 2 + below(2), true);
      box(3, 5, below(3) > 0);
      for (int at = 0; at < 48; at++) {
        if (below(4) > 0) {
          word(at, likelyWord());
        }
      }
      same("set", real.set(9, 3), model.set(9, 3));
      if (seed % 5 == 0) {
        int n = 1960 + below(40);
        same("hours(" + n + ")", real.hours(n), model.hours(n));
      }
      wake();
    }

    private int likelyWord() {
      int[] acts = {0, 32, 64, 64, 96, 128, 160, 160, 192, 224, 224, 224, 224};
      int act = acts[below(acts.length)];
      if (act == 0 && below(4) > 0) {
        return 1 + below(4);
      }
      if (act == 96 && below(3) > 0) {
        return act + 8 + below(8);
      }
      return act == 128 ? act + 14 + below(5) : act + below(below(2) == 0 ? 32 : 8);
    }

    /** The machine talks on; sometimes THE START is told there. */
    private boolean wake() {
      boolean good = box(0, 1, true) && box(1, 4, true);
      int[][] told = {{0, below(12)}, {1, 1 + below(20)}, {2, 60}, {4, below(5) - 2}, {5, 0}, {6, 10}, {7, 99}};
      for (int[] pair : told) {
        good = good && same("set(" + pair[0] + ", " + pair[1] + ")", real.set(pair[0], pair[1]), model.set(pair[0], pair[1]));
      }
      return good && (below(2) == 0 || same("start()", real.start(), model.start()));
    }

    private boolean box(int box, int kind, boolean on) {
      return same("box(" + box + ", " + kind + ", " + on + ")", real.box(box, kind, on), model.box(box, kind, on));
    }

    private boolean word(int at, int v) {
      return same("word(" + at + ", " + v + ")", real.word(at, v), model.word(at, v));
    }

    private boolean step() {
      int a = near(0, 60);
      int n = below(3) == 0 ? near(1, 60) : 1 + below(12);
      int m = below(3) == 0 ? near(1, 60) : 1 + below(12);
      switch (below(50)) {
        case 0: return word(near(0, 47), below(5) == 0 ? near(0, 255) : likelyWord());
        case 1: a = near(0, 47); return same("wordOf(" + a + ")", real.wordOf(a), model.wordOf(a));
        case 2: return box(near(0, 7), near(0, 7), below(3) > 0);
        case 3: return told();
        case 4: case 5: a = near(0, 9); return same("state(" + a + ")", real.state(a), model.state(a));
        case 6: case 7: a = near(0, 31); return same("felt(" + a + ")", real.felt(a), model.felt(a));
        case 8: case 9: case 10: return passed();
        case 11: case 12: return commanded();
        case 13: return same("sent()", real.sent(), model.sent());
        case 14: case 15: a = near(0, 20); return same("heard(" + a + ")", real.heard(a), model.heard(a));
        case 16: return below(2) > 0 || same("start()", real.start(), model.start());
        case 17: case 18: return suspected();
        case 19: return putOn(near(-128, 127));
        case 20: return below(3) > 0 || same("unput()", real.unput(), model.unput());
        case 21: case 22: return rowOfTruth(n);
        case 23: case 24: a = near(0, (1 << model.w.suspects.size()) - 1);
          return same("fits(" + a + ", " + n + ")", real.fits(a, n), model.fits(a, n));
        case 25: case 26: a = near(0, 3);
          return same("fitting(" + n + ", " + a + ")", real.fitting(n, a), model.fitting(n, a));
        case 27: return below(3) > 0 || fed();
        case 28: return below(3) > 0 || same("rule()", real.rule(), model.rule());
        case 29: return below(2) > 0 || ruled();
        case 30: a = near(0, 9); return same("holds(" + a + ")", real.holds(a), model.holds(a));
        case 31: case 32: a = near(0, (1 << model.w.suspects.size()) - 1);
          return same("broken(" + a + ", " + n + ")", real.broken(a, n), model.broken(a, n));
        case 33: return asked();
        case 34: a = near(0, 5);
          return same("safe(" + a + ", " + n + ", " + m + ")", real.safe(a, n, m), model.safe(a, n, m));
        case 35: a = near(0, 5);
          return same("parts(" + a + ", " + n + ", " + m + ")", real.parts(a, n, m), model.parts(a, n, m));
        case 36: return same("best(" + n + ", " + m + ")", real.best(n, m), model.best(n, m));
        case 37: a = near(0, 47); n = near(1, 12);
          return same("hole(" + a + ", " + n + ")", real.hole(a, n), model.hole(a, n));
        case 38: a = near(1, 40); return same("fewest(" + a + ")", real.fewest(a), model.fewest(a));
        case 39: a = below(6) == 0 ? near(0, 99) : below(20);
          return same("keep(" + a + ")", real.keep(a), model.keep(a));
        case 40: a = near(0, 99); return same("warm(" + a + ")", real.warm(a), model.warm(a));
        case 41: return same("aim()", real.aim(), model.aim());
        case 42: a = near(-1, 10); return same("unlike(" + a + ")", real.unlike(a), model.unlike(a));
        case 43: return below(2) > 0 || same("image()", real.image(), model.image());
        case 44: return below(2) > 0 || same("on()", real.on(), model.on());
        case 45: case 46: return below(2) > 0 || wake();
        case 47: return word(below(12), likelyWord());
        case 48: a = near(0, 30); return same("heard(" + a + ")", real.heard(a), model.heard(a));
        default: a = near(0, 17); return same("count(" + a + ")", real.count(a), model.count(a));
      }
    }

    private boolean told() {
      int what = near(0, 9);
      int within = Math.max(0, Math.min(what, 9));
      int v = near(Model.LEAST[within], Model.MOST[within]);
      return same("set(" + what + ", " + v + ")", real.set(what, v), model.set(what, v));
    }

    private boolean passed() {
      int n = below(40) == 0 ? near(1, 2000) : near(1, 12);
      return same("hours(" + n + ")", real.hours(n), model.hours(n));
    }

    private boolean commanded() {
      int kind = near(0, 2);
      int where = near(0, 47);
      int v = kind == 1 ? near(0, 47) : near(0, 255);
      return same("command(" + kind + ", " + where + ", " + v + ")", real.command(kind, where, v), model.command(kind, where, v));
    }

    private boolean asked() {
      int kind = near(0, 2);
      int where = below(2) == 0 ? near(0, 47) : below(12);
      int v = kind == 1 ? near(0, 47) : below(2) == 0 ? near(0, 255) : likelyWord();
      return same("ask(" + kind + ", " + where + ", " + v + ")", real.ask(kind, where, v), model.ask(kind, where, v));
    }

    private boolean suspected() {
      int word = below(6) == 0 ? near(0, 47) : below(12);
      int bit = near(0, 7);
      return same("suspect(" + word + ", " + bit + ")", real.suspect(word, bit), model.suspect(word, bit));
    }

    private boolean putOn(int v) {
      return same("put(" + v + ")", real.put(v), model.put(v));
    }

    /** THE ROW becomes what some STATE would send, so that it FITS. */
    private boolean rowOfTruth(int n) {
      if (model.w.start == null || n < 1 || n > 60) {
        return true;
      }
      boolean good = same("unput()", real.unput(), model.unput());
      List<Integer> truth = new ArrayList<>();
      model.tried(below(1 << model.w.suspects.size()), n, truth);
      for (int v : truth) {
        good = good && putOn(v);
      }
      return good && same("fitting(" + n + ", 0)", real.fitting(n, 0), model.fitting(n, 0))
          && same("best(" + n + ", 9)", real.best(n, 9), model.best(n, 9));
    }

    private boolean feed(int n, long bytes) {
      return same("feed(" + n + ", " + bytes + ")", real.feed(n, bytes), model.feed(n, bytes));
    }

    private boolean fed() {
      int n = near(1, 8);
      String signs = "hfdaptwo<=>&!-0123456789xH ";
      long bytes = 0;
      for (int i = 0; i < 8; i++) {
        bytes |= (long) signs.charAt(below(signs.length())) << (8 * i);
      }
      return feed(n, bytes);
    }

    /** A text that is mostly a RULE. */
    private boolean ruled() {
      StringBuilder text = new StringBuilder();
      int tests = 1 + below(3);
      for (int i = 0; i < tests; i++) {
        if (i > 0) {
          text.append('&');
        }
        for (int j = below(3); j > 1; j--) {
          text.append('!');
        }
        unit(text);
        text.append("<=>".charAt(below(3)));
        unit(text);
      }
      if (below(12) == 0) {
        text.setCharAt(below(text.length()), (char) below(256));
      }
      boolean good = true;
      for (int from = 0; from < text.length() && good; from += 8) {
        int n = Math.min(8, text.length() - from);
        long bytes = 0;
        for (int i = 0; i < n; i++) {
          bytes |= (long) text.charAt(from + i) << (8 * i);
        }
        good = feed(n, bytes);
      }
      return good && same("rule()", real.rule(), model.rule());
    }

    private void unit(StringBuilder text) {
      if (below(2) == 0) {
        text.append("hfdaptwo".charAt(below(8)));
      } else {
        text.append(below(4) == 0 ? "-" : "").append(below(below(2) == 0 ? 100 : 20));
      }
    }
  }

  /** A COMMAND and how many HOURS must have gone by in all as it comes. */
  private record Come(int kind, int where, int v, int gone) {
  }

  /** A byte and the HOUR as of which it is HEARD. */
  private record Said(int v, int hour) {
  }

  private record Suspect(int word, int bit) {
  }

  /** THE MACHINE as ten numbers told, its WORDS and its BOXES. */
  private static final class Far {
    final int[] told = {0, 0, 50, 60, 0, 0, 10, 24, 200, 9};
    final int[] words = new int[48];
    final int[] kinds = new int[8];
    final boolean[] on = new boolean[8];
    List<Come> way = new ArrayList<>();
    /** HOURS that went by, also those that HOUR no more counts. */
    int gone;
    int hour;
    int silent;

    Far copy() {
      Far c = new Far();
      System.arraycopy(told, 0, c.told, 0, 10);
      System.arraycopy(words, 0, c.words, 0, 48);
      System.arraycopy(kinds, 0, c.kinds, 0, 8);
      System.arraycopy(on, 0, c.on, 0, 8);
      c.way = new ArrayList<>(way);
      c.gone = gone;
      c.hour = hour;
      c.silent = silent;
      return c;
    }

    int power(int but) {
      int sum = 0;
      for (int i = 0; i < 8; i++) {
        if (on[i] && (but & (1 << i)) == 0) {
          switch (kinds[i]) {
            case 0: sum += 1; break;
            case 1: sum += 4; break;
            case 2: case 3: sum += 2; break;
            case 4: sum += 3; break;
            case 5: sum += 5; break;
            case 6: sum += 3 - 1; break;
            default: break;
          }
        }
      }
      return sum;
    }

    boolean any(int kind) {
      for (int i = 0; i < 8; i++) {
        if (on[i] && kinds[i] == kind) {
          return true;
        }
      }
      return false;
    }

    int onMany() {
      int many = 0;
      for (boolean b : on) {
        many += b ? 1 : 0;
      }
      return many;
    }

    int feel(int n) {
      if (n >= 8) {
        return words[16 + n] - 128;
      }
      if (n == 0) {
        for (int i = 0; i < 8; i++) {
          if (on[i] && (kinds[i] == 2 || kinds[i] == 3)) {
            return told[2] + (kinds[i] == 3 ? 5 : 0);
          }
        }
        return 0;
      }
      int[] all = {0, told[3], told[4], hour % 24, onMany(), told[1], told[0], power(0)};
      return all[n];
    }

    void come(Come c) {
      if (c.kind == 0) {
        words[c.where] = c.v;
      }
      if (c.kind == 1) {
        told[0] = c.v;
        told[5] = 0;
      }
    }

    /** What is SENT in AN HOUR, as a list of one or none. */
    List<Integer> pass() {
      List<Integer> said = new ArrayList<>();
      List<Come> later = new ArrayList<>();
      for (Come c : way) {
        if (c.gone == gone) {
          come(c);
        } else {
          later.add(c);
        }
      }
      boolean silence = later.size() == way.size();
      way = later;
      if (told[5] > 0) {
        told[5]--;
      } else {
        act(said);
      }
      told[2] = heat(told[2]);
      if (told[2] < told[6]) {
        for (int i = 0; i < 8; i++) {
          on[i] = on[i] && (kinds[i] == 4 || kinds[i] == 6);
        }
      }
      if (hour > 0 && hour % told[7] == 0 && told[4] < 20) {
        told[4]++;
      }
      silent = silence ? silent + 1 : 0;
      if (silent >= told[8]) {
        silent = 0;
        told[0] = 40;
        told[5] = 0;
      }
      gone++;
      if (hour < 2000) {
        hour++;
      }
      return said;
    }

    int heat(int from) {
      int h = from - 2;
      for (int i = 0; i < 8; i++) {
        if (on[i]) {
          h += kinds[i] == 4 ? 3 : kinds[i] == 6 ? 1 : 0;
        }
      }
      return h < 0 ? 0 : h > 99 ? 99 : h;
    }

    private void act(List<Integer> said) {
      int act = words[told[0]] / 32;
      int n = words[told[0]] % 32;
      int place = told[0];
      boolean moved = false;
      if (act == 0) {
        told[5] = n;
        moved = n == 0;
      } else if (act == 1) {
        told[1] = n;
      } else if (act == 2) {
        told[1] = Math.min(127, Math.max(-128, told[1] + n - 16));
      } else if (act == 3) {
        on[n % 8] = n % 16 >= 8;
      } else if (act == 4) {
        int by = n - 16;
        int cost = by < 0 ? -by : by;
        if (any(5) && told[3] >= cost) {
          told[3] -= cost;
          told[4] = Math.min(20, Math.max(-20, told[4] + by));
        }
      } else if (act == 5) {
        if (told[1] > 0) {
          told[0] = n;
          moved = true;
        }
      } else if (act == 6) {
        told[1] = feel(n);
      } else if (any(1) && told[4] <= 2 && told[4] >= -2) {
        said.add(feel(n));
      }
      if (!moved) {
        told[0] = (place + 1) % 48;
      }
    }

    int letter(char c) {
      switch (c) {
        case 'h': return told[2];
        case 'f': return told[3];
        case 'd': return told[4];
        case 'a': return told[1];
        case 'p': return told[0];
        case 't': return hour % 24;
        case 'w': return power(0);
        default: return onMany();
      }
    }

    /** A RULE by cutting its text; it is known to be whole. */
    boolean is(String rule) {
      for (String test : rule.split("&")) {
        int nots = test.lastIndexOf('!') + 1;
        String plain = test.substring(nots);
        int sign = Math.max(plain.indexOf('<'), Math.max(plain.indexOf('='), plain.indexOf('>')));
        int left = value(plain.substring(0, sign));
        int right = value(plain.substring(sign + 1));
        char c = plain.charAt(sign);
        boolean b = c == '<' ? left < right : c == '=' ? left == right : left > right;
        if (b == (nots % 2 == 1)) {
          return false;
        }
      }
      return true;
    }

    private int value(String unit) {
      char last = unit.charAt(unit.length() - 1);
      return last >= '0' && last <= '9' ? Integer.parseInt(unit) : letter(last);
    }
  }

  /** All that THE IMAGE takes. */
  private static final class All {
    Far far = new Far();
    Far start;
    List<Said> said = new ArrayList<>();
    List<Suspect> suspects = new ArrayList<>();
    List<String> rules = new ArrayList<>();
    List<Come> asks = new ArrayList<>();
    List<Integer> holes = new ArrayList<>();

    All copy() {
      All c = new All();
      c.far = far.copy();
      c.start = start == null ? null : start.copy();
      c.said = new ArrayList<>(said);
      c.suspects = new ArrayList<>(suspects);
      c.rules = new ArrayList<>(rules);
      c.asks = new ArrayList<>(asks);
      c.holes = new ArrayList<>(holes);
      return c;
    }
  }

  /** The calls, by the document's words. */
  private static final class Model {
    static final int[] LEAST = {0, -128, 0, 0, -20, 0, 0, 1, 1, 0};
    static final int[] MOST = {47, 127, 99, 99, 20, 31, 99, 99, 999, 20};
    All w = new All();
    private All image;
    private final List<Integer> row = new ArrayList<>();
    private String tape = "";
    private final int[] refused = new int[7];

    private int no(int code) {
      refused[-code]++;
      return code;
    }

    private int far(int code) {
      return 1000 - no(code);
    }

    private static boolean out(int v, int least, int most) {
      return v < least || v > most;
    }

    int word(int at, int v) {
      if (out(at, 0, 47)) {
        return no(-1);
      }
      if (out(v, 0, 255)) {
        return no(v < 0 ? -4 : -6);
      }
      int was = w.far.words[at];
      w.far.words[at] = v;
      return was;
    }

    int wordOf(int at) {
      return out(at, 0, 47) ? no(-1) : w.far.words[at];
    }

    int box(int box, int kind, boolean on) {
      if (out(box, 0, 7)) {
        return no(-1);
      }
      if (out(kind, 0, 7)) {
        return no(-2);
      }
      int was = w.far.kinds[box];
      w.far.kinds[box] = kind;
      w.far.on[box] = on;
      return was;
    }

    int set(int what, int v) {
      if (out(what, 0, 9)) {
        return no(-2);
      }
      if (out(v, LEAST[what], MOST[what])) {
        return no(v < LEAST[what] ? -4 : -6);
      }
      w.far.told[what] = v;
      return 1;
    }

    int state(int what) {
      if (out(what, 0, 9)) {
        return far(-2);
      }
      if (what < 6) {
        return w.far.told[what];
      }
      int bits = 0;
      for (int i = 0; i < 8; i++) {
        bits += w.far.on[i] ? 1 << i : 0;
      }
      return what == 6 ? w.far.hour : what == 7 ? w.far.power(0) : what == 8 ? bits : w.far.silent;
    }

    int felt(int n) {
      return n < 0 ? far(-4) : n > 31 ? far(-6) : w.far.feel(n);
    }

    int hours(int n) {
      if (out(n, 1, 2000)) {
        return no(n < 1 ? -4 : -6);
      }
      for (int i = 0; i < n; i++) {
        int heard = w.far.hour + w.far.told[9];
        for (int v : w.far.pass()) {
          if (w.said.size() < 60) {
            w.said.add(new Said(v, heard));
          }
        }
      }
      return w.far.hour;
    }

    private int wrongCommand(int kind, int where, int v, boolean full) {
      if (out(kind, 0, 2)) {
        return -2;
      }
      if (kind == 0 && out(where, 0, 47)) {
        return -1;
      }
      int most = kind == 0 ? 255 : 47;
      if (kind < 2 && v < 0) {
        return -4;
      }
      return kind < 2 && v > most || full ? -6 : 0;
    }

    int command(int kind, int where, int v) {
      int code = wrongCommand(kind, where, v, w.far.way.size() == 30);
      if (code != 0) {
        return no(code);
      }
      w.far.way.add(new Come(kind, where, v, w.far.gone + w.far.told[9]));
      return w.far.way.size();
    }

    int sent() {
      return w.said.size();
    }

    int heard(int i) {
      List<Integer> heard = new ArrayList<>();
      for (Said s : w.said) {
        if (w.far.hour >= s.hour) {
          heard.add(s.v);
        }
      }
      return out(i, 0, heard.size() - 1) ? far(-1) : heard.get(i);
    }

    int start() {
      w.start = w.far.copy();
      return w.far.hour;
    }

    int suspect(int word, int bit) {
      if (out(word, 0, 47)) {
        return no(-1);
      }
      if (bit < 0) {
        return no(-4);
      }
      if (bit > 7 || w.suspects.size() == 8) {
        return no(-6);
      }
      if (w.suspects.contains(new Suspect(word, bit))) {
        return no(-3);
      }
      w.suspects.add(new Suspect(word, bit));
      return w.suspects.size() - 1;
    }

    int put(int v) {
      if (v < -128) {
        return no(-4);
      }
      if (v > 127 || row.size() == 40) {
        return no(-6);
      }
      row.add(v);
      return row.size();
    }

    int unput() {
      int had = row.size();
      row.clear();
      return had;
    }

    Far tried(int state, int n, List<Integer> said) {
      Far far = w.start.copy();
      for (int i = 0; i < w.suspects.size(); i++) {
        if ((state & (1 << i)) != 0) {
          far.words[w.suspects.get(i).word] ^= 1 << w.suspects.get(i).bit;
        }
      }
      for (int i = 0; i < n; i++) {
        said.addAll(far.pass());
      }
      return far;
    }

    private int wrongTried(boolean known, int n, int m) {
      if (!known) {
        return -1;
      }
      if (n < 1 || m < 1) {
        return -4;
      }
      if (n > 60 || m > 60) {
        return -6;
      }
      return w.start == null ? -3 : 0;
    }

    private List<Integer> fitting(int n) {
      List<Integer> states = new ArrayList<>();
      for (int state = 0; state < 1 << w.suspects.size(); state++) {
        List<Integer> said = new ArrayList<>();
        tried(state, n, said);
        if (said.equals(row)) {
          states.add(state);
        }
      }
      return states;
    }

    private boolean known(int state) {
      return !out(state, 0, (1 << w.suspects.size()) - 1);
    }

    int fits(int state, int n) {
      int code = wrongTried(known(state), n, 1);
      return code != 0 ? no(code) : fitting(n).contains(state) ? 1 : 0;
    }

    int fitting(int n, int what) {
      if (out(what, 0, 3)) {
        return no(-2);
      }
      int code = wrongTried(true, n, 1);
      if (code != 0) {
        return no(code);
      }
      List<Integer> states = fitting(n);
      if (what == 0 || states.isEmpty()) {
        return what == 0 ? states.size() : -9;
      }
      int sure = 0;
      int may = 0;
      for (int bit = 1; bit < 256; bit *= 2) {
        int with = 0;
        for (int s : states) {
          with += (s & bit) != 0 ? 1 : 0;
        }
        sure += with == states.size() ? bit : 0;
        may += with > 0 ? bit : 0;
      }
      int least = states.get(0);
      for (int s : states) {
        if (Integer.bitCount(s) < Integer.bitCount(least)) {
          least = s;
        }
      }
      return what == 1 ? sure : what == 2 ? may : least;
    }

    int feed(int n, long bytes) {
      if (n < 1) {
        return no(-4);
      }
      if (n > 8 || tape.length() + n > 30) {
        return no(-6);
      }
      for (int i = 0; i < n; i++) {
        tape += (char) ((bytes >>> (8 * i)) & 255);
      }
      return tape.length();
    }

    /** The longest beginning of THE TAPE that some RULE could have; its end is the FAULT. */
    int rule() {
      if (w.rules.size() == 10) {
        return no(-6);
      }
      String unit = "(-?[0-9]{1,3}|[hfdaptwo])";
      String test = "!*" + unit + "[<=>]" + unit;
      String rule = test + "(&" + test + ")*";
      String text = tape;
      tape = "";
      if (text.matches(rule)) {
        w.rules.add(text);
        return w.rules.size() - 1;
      }
      String[] ends = {"", "1", "<1", "h<1", "1<1"};
      for (int many = text.length(); many >= 0; many--) {
        for (String end : ends) {
          if ((text.substring(0, many) + end).matches(rule)) {
            return -20 - many;
          }
        }
      }
      return -99;
    }

    int holds(int rule) {
      return out(rule, 0, w.rules.size() - 1) ? no(-1) : w.far.is(w.rules.get(rule)) ? 1 : 0;
    }

    private int brokenFrom(Far far, int n, List<Integer> said) {
      int first = -9;
      for (int i = 0; i < n; i++) {
        said.addAll(far.pass());
        for (int r = 0; r < w.rules.size() && first == -9; r++) {
          if (far.is(w.rules.get(r))) {
            first = 100 * i + r;
          }
        }
      }
      return first;
    }

    int broken(int state, int n) {
      int code = wrongTried(known(state), n, 1);
      return code != 0 ? no(code) : brokenFrom(tried(state, 0, new ArrayList<>()), n, new ArrayList<>());
    }

    int ask(int kind, int where, int v) {
      int code = wrongCommand(kind, where, v, w.asks.size() == 6);
      if (code != 0) {
        return no(code);
      }
      w.asks.add(new Come(kind, where, v, 0));
      return w.asks.size() - 1;
    }

    /** PARTS; with a -1 ahead of them in the set if it is not SAFE; empty if none FITS. */
    private Set<List<Integer>> parted(int ask, int n, int m, boolean[] safe) {
      Set<List<Integer>> rows = new HashSet<>();
      for (int state : fitting(n)) {
        Far far = tried(state, n, new ArrayList<>());
        far.come(w.asks.get(ask));
        List<Integer> said = new ArrayList<>();
        safe[0] &= brokenFrom(far, m, said) == -9;
        rows.add(said);
      }
      return rows;
    }

    private int judged(int ask, int n, int m, boolean wantSafe) {
      int code = wrongTried(!out(ask, 0, w.asks.size() - 1), n, m);
      if (code != 0) {
        return no(code);
      }
      boolean[] safe = {true};
      int many = parted(ask, n, m, safe).size();
      if (many == 0) {
        return no(-3);
      }
      return !wantSafe ? many : safe[0] ? 1 : 0;
    }

    int safe(int ask, int n, int m) {
      return judged(ask, n, m, true);
    }

    int parts(int ask, int n, int m) {
      return judged(ask, n, m, false);
    }

    int best(int n, int m) {
      int code = wrongTried(true, n, m);
      if (code != 0) {
        return no(code);
      }
      if (fitting(n).isEmpty()) {
        return no(-3);
      }
      int best = -9;
      int most = -1;
      for (int ask = 0; ask < w.asks.size(); ask++) {
        boolean[] safe = {true};
        int many = parted(ask, n, m, safe).size();
        if (safe[0] && many > most) {
          best = ask;
          most = many;
        }
      }
      return best;
    }

    int hole(int from, int many) {
      if (out(from, 0, 47)) {
        return no(-1);
      }
      if (many < 1) {
        return no(-4);
      }
      if ((long) from + many > 48 || w.holes.size() == 8) {
        return no(-6);
      }
      w.holes.add(many);
      return w.holes.size();
    }

    int fewest(int k) {
      if (out(k, 1, 40)) {
        return no(k < 1 ? -4 : -6);
      }
      for (int many = 1; many <= 8; many++) {
        for (int set = 1; set < 1 << w.holes.size(); set++) {
          int left = k;
          for (int i = 0; i < w.holes.size(); i++) {
            left -= (set & (1 << i)) != 0 ? w.holes.get(i) - 1 : 0;
          }
          if (Integer.bitCount(set) == many && left <= 1) {
            return set;
          }
        }
      }
      return -9;
    }

    int keep(int power) {
      if (out(power, 0, 99)) {
        return no(power < 0 ? -4 : -6);
      }
      for (int many = 0; many <= 8; many++) {
        for (int set = 0; set < 256; set++) {
          if (Integer.bitCount(set) == many && (set & ~state(8)) == 0 && w.far.power(set) <= power) {
            return set;
          }
        }
      }
      return -99;
    }

    int warm(int heat) {
      if (out(heat, 0, 99)) {
        return no(heat < 0 ? -4 : -6);
      }
      int h = w.far.told[2];
      int hours = 0;
      while (h >= heat && hours <= 200) {
        h = w.far.heat(h);
        hours++;
      }
      return hours > 200 ? -9 : hours;
    }

    int aim() {
      for (int cost = 0; cost <= Math.min(16, w.far.told[3]); cost++) {
        for (int n = 16 - cost; n <= Math.min(31, 16 + cost); n++) {
          int dish = w.far.told[4] + n - 16;
          if (Math.abs(n - 16) == cost && dish >= -2 && dish <= 2) {
            return n;
          }
        }
      }
      return -9;
    }

    int unlike(int i) {
      if (i < -1) {
        return no(-1);
      }
      if (w.start == null) {
        return no(-3);
      }
      List<Integer> all = new ArrayList<>();
      for (int at = 0; at < 48; at++) {
        if (w.far.words[at] != w.start.words[at]) {
          all.add(at);
        }
      }
      return i == -1 ? all.size() : i < all.size() ? all.get(i) : -9;
    }

    int image() {
      image = w.copy();
      return w.far.hour;
    }

    int on() {
      if (image == null) {
        return no(-3);
      }
      w = image.copy();
      return w.far.hour;
    }

    int count(int what) {
      if (!out(what, 11, 16)) {
        return refused[what - 10];
      }
      int[] all = {w.far.hour, w.far.way.size(), w.suspects.size(), w.rules.size(), w.asks.size(),
          w.holes.size(), row.size(), tape.length()};
      return out(what, 0, 7) ? -9 : all[what];
    }
  }
}
