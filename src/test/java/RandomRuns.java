import java.math.BigInteger;
import java.util.ArrayList;
import java.util.Arrays;
import java.util.Collections;
import java.util.List;
import java.util.Random;
import java.util.TreeSet;

/**
 * Random runs of calls, each answered by HornBraider and by a slow model that is written here from
 * the document's words alone and by other means (tokens first, handle reduction, plain simulation).
 */
public final class RandomRuns {
  private static int wrong = 0;
  private static long calls = 0;
  private static final long[] statusSeen = new long[10];

  public static void main(String[] args) {
    int runs = args.length > 0 ? Integer.parseInt(args[0]) : 150;
    int first = args.length > 1 ? Integer.parseInt(args[1]) : 1;
    for (int seed = first; seed < first + runs && wrong < 5; seed++) {
      new Driver(seed).go();
    }
    System.out.println(calls + " calls, by status " + Arrays.toString(statusSeen));
    System.out.println(wrong == 0 ? "all answers are as due" : wrong + " runs are not as due");
    if (wrong != 0) System.exit(1);
  }

  // ---- the calls

  static final class Driver {
    final Random random;
    final int seed;
    final HornBraider x = new HornBraider();
    final Model m = new Model();
    final StringBuilder log = new StringBuilder();
    int made = 0;
    boolean bad = false;
    final int flavour;

    Driver(int seed) {
      this.seed = seed;
      random = new Random(seed * 7919L + 13);
      flavour = seed % 6;
    }

    void go() {
      int limit = 60 + random.nextInt(450);
      while (made < limit && !bad) {
        if (made == 0 || random.nextInt(90) == 0) loadSome(limit);
        else callSome();
      }
    }

    void check(String call, int got, int want) {
      made++;
      calls++;
      log.append(call).append(" -> ").append(got).append('\n');
      int status = x.status();
      if (m.status >= 0 && m.status < 10) statusSeen[m.status]++;
      if (bad) return;
      if (got != want || status != m.status) {
        bad = true;
        wrong++;
        System.out.println("seed " + seed + ": " + call + " answered " + got + " status " + status
            + ", due is " + want + " status " + m.status + "\nrun:\n" + log);
      }
    }

    void loadSome(int limit) {
      String text = random.nextInt(3) == 0 ? faulty(validText()) : validText();
      byte[] bytes = new byte[(text.length() + 19) / 20 * 20];
      for (int i = 0; i < bytes.length; i++) bytes[i] = i < text.length() ? (byte) text.charAt(i) : 0;
      if (made + bytes.length / 20 + 1 > 500) return;
      log.append("TEXT ").append(text).append('\n');
      for (int i = 0; i < bytes.length; i += 20) {
        int[] v = new int[5];
        for (int k = 0; k < 20; k++) v[k / 4] = v[k / 4] << 8 | bytes[i + k] & 255;
        check("feed", x.feed(v[0], v[1], v[2], v[3], v[4]), m.feed(v[0], v[1], v[2], v[3], v[4]));
      }
      int n = text.length() + (random.nextInt(12) == 0 ? random.nextInt(40) - 20 : 0);
      check("load(" + n + ")", x.load(n), m.load(n));
      check("fault(0)", x.fault(0), m.fault(0));
      check("fault(1)", x.fault(1), m.fault(1));
    }

    int pick(int... of) { return of[random.nextInt(of.length)]; }

    /** Mostly from 0 to most - 1, sometimes just outside. */
    int near(int most) {
      int r = random.nextInt(40);
      if (r == 0) return -1;
      if (r == 1) return most;
      if (r == 2) return pick(-2, Integer.MIN_VALUE, Integer.MAX_VALUE, most + 1, most + 7);
      return most <= 0 ? 0 : random.nextInt(most);
    }

    void callSome() {
      int slots = m.slots();
      int sw = m.switches.size();
      int bb = m.start.size();
      int a, b, c;
      switch (random.nextInt(54)) {
        case 0: a = near(2); check("fault(" + a + ")", x.fault(a), m.fault(a)); break;
        case 1: case 2: a = near(12); check("many(" + a + ")", x.many(a), m.many(a)); break;
        case 3: a = near(sw); b = near(6); check("gate(" + a + "," + b + ")", x.gate(a, b), m.gate(a, b)); break;
        case 4: a = near(sw); b = near(5); check("bit(" + a + "," + b + ")", x.bit(a, b), m.bit(a, b)); break;
        case 5: case 6: a = near(bb); b = near(6); check("bobbin(" + a + "," + b + ")", x.bobbin(a, b), m.bobbin(a, b)); break;
        case 7: a = near(slots); check("at(" + a + ")", x.at(a), m.at(a)); break;
        case 8: a = near(slots); check("faces(" + a + ")", x.faces(a), m.faces(a)); break;
        case 9: a = near(sw); c = 1 + near(4); b = near(1 << Math.max(0, Math.min(c, 5)));
          check("program(" + a + "," + b + "," + c + ")", x.program(a, b, c), m.program(a, b, c)); break;
        case 10: a = near(sw); b = near(3); check("stick(" + a + "," + b + ")", x.stick(a, b), m.stick(a, b)); break;
        case 11: a = near(sw); boolean is = random.nextInt(3) != 0;
          check("free(" + a + "," + is + ")", x.free(a, is), m.free(a, is)); break;
        case 12: if (random.nextInt(3) == 0) check("reset()", x.reset(), m.reset());
          a = near(slots); check("put(" + a + ")", x.put(a), m.put(a)); break;
        case 13: if (random.nextInt(4) != 0) break;
          if (random.nextInt(3) == 0) check("reset()", x.reset(), m.reset());
          a = near(bb); check("take(" + a + ")", x.take(a), m.take(a)); break;
        case 14: a = near(bb); b = random.nextInt(4) == 0 ? -1 : near(slots);
          if (random.nextInt(3) == 0 && a >= 0 && a < bb) b = m.now.get(a);
          check("wish(" + a + "," + b + ")", x.wish(a, b), m.wish(a, b)); break;
        case 15: case 16: case 17: case 18: a = random.nextInt(5) == 0 ? 1 + near(100) : 1 + near(6);
          check("step(" + a + ")", x.step(a), m.step(a)); break;
        case 19: if (random.nextInt(3) == 0) check("reset()", x.reset(), m.reset()); break;
        case 20: if (random.nextInt(6) == 0) check("cut()", x.cut(), m.cut()); break;
        case 21: check("print()", x.print(), m.print()); break;
        case 22: case 23: a = near(m.out.length()); check("out(" + a + ")", x.out(a), m.outByte(a)); break;
        case 24: a = random.nextInt(3) == 0 ? near(1000001) : near(30); b = near(slots);
          check("map(" + a + "," + b + ")", x.map(a, b), m.map(a, b)); break;
        case 25: a = near(slots); b = random.nextInt(3) == 0 ? near(1000001) : near(30);
          c = random.nextInt(3) == 0 ? near(10001) : near(50);
          check("ride(" + a + "," + b + "," + c + ")", x.ride(a, b, c), m.ride(a, b, c)); break;
        case 26: a = near(slots); check("round(" + a + ")", x.round(a), m.round(a)); break;
        case 27: a = near(slots); b = near(3); check("track(" + a + "," + b + ")", x.track(a, b), m.track(a, b)); break;
        case 28: a = near(3); check("tracks(" + a + ")", x.tracks(a), m.tracks(a)); break;
        case 29: a = near(random.nextInt(3) == 0 ? 81 : 12); check("ofLength(" + a + ")", x.ofLength(a), m.ofLength(a)); break;
        case 30: case 31: a = near(slots); b = near(slots); c = near(2);
          check("meets(" + a + "," + b + "," + c + ")", x.meets(a, b, c), m.meets(a, b, c)); break;
        case 32: case 33: a = near(4); check("crash(" + a + ")", x.crash(a), m.crash(a)); break;
        case 34: check("repeat()", x.repeat(), m.repeat()); break;
        case 35: if (random.nextInt(3) != 0) break;
          a = near(9); check("laid(" + a + ")", x.laid(a), m.laid(a)); break;
        case 36: a = near(m.word.size() + 1); check("letter(" + a + ")", x.letter(a), m.letter(a)); break;
        case 37: a = near(m.wished == null ? 1 : m.wished.size() + 1); check("wished(" + a + ")", x.wished(a), m.wished(a)); break;
        case 38: case 39: a = near(7); check("braid(" + a + ")", x.braid(a), m.braid(a)); break;
        case 40: a = 1 + near(bb); check("ends(" + a + ")", x.ends(a), m.ends(a)); break;
        case 41: a = 1 + near(bb); b = 1 + near(bb); check("pair(" + a + "," + b + ")", x.pair(a, b), m.pair(a, b)); break;
        case 42: a = 1 + near(bb); b = near(4); check("thread(" + a + "," + b + ")", x.thread(a, b), m.thread(a, b)); break;
        case 43: a = 1 + near(4); check("times(" + a + ")", x.times(a), m.times(a)); break;
        case 44: a = 1 + steps(); check("search(" + a + ")", x.search(a), m.search(a)); break;
        case 45: case 46: a = 1 + steps(); b = near(m.settings()); c = near(5);
          check("refusal(" + a + "," + b + "," + c + ")", x.refusal(a, b, c), m.refusal(a, b, c)); break;
        case 47: a = 1 + steps(); b = near(5); check("refused(" + a + "," + b + ")", x.refused(a, b), m.refused(a, b)); break;
        case 48: case 49: sighting(); break;
        case 50: if (random.nextInt(3) == 0) check("forget()", x.forget(), m.forget()); break;
        case 51: if (m.tooDear()) break;
          a = near(2); check("name(" + a + ")", x.name(a), m.name(a)); break;
        case 52: if (m.tooDear()) break;
          a = near(3); b = near(3); check("named(" + a + "," + b + ")", x.named(a, b), m.named(a, b)); break;
        default: a = near(40) * 20; check("load(" + a + ")", x.load(a), m.load(a)); break;
      }
    }

    int steps() {
      return random.nextInt(4) == 0 ? near(64) : near(8);
    }

    /** Often what would be seen with one or two switches stuck, so that something explains. */
    void sighting() {
      int bb = m.start.size();
      int b = near(bb), t = random.nextInt(4) == 0 ? near(65) : near(12), slot = near(m.slots());
      if (random.nextInt(5) != 0 && b >= 0 && b < bb && t >= 0 && t <= 64) {
        int[] how = new int[m.switches.size()];
        Random fixed = new Random(seed * 31L + m.slots());
        for (int k = 0; k < 2 && how.length > 0; k++) how[fixed.nextInt(how.length)] = 1 + fixed.nextInt(2);
        Integer at = m.whereIf(how, b, t);
        if (at != null) slot = at;
      }
      check("seen(" + b + "," + t + "," + slot + ")", x.seen(b, t, slot), m.seen(b, t, slot));
    }

    // ---- texts

    String blank() { return random.nextInt(15) == 0 ? pickText(" ", "\n", "  ", " \n ") : ""; }

    String gap() { return random.nextInt(15) == 0 ? pickText("\n", "  ", " \n") : " "; }

    String pickText(String... of) { return of[random.nextInt(of.length)]; }

    String num(int n) { return random.nextInt(20) == 0 ? pickText("0", "00").substring(0, n > 9 ? 1 : 1) + n : "" + n; }

    String validText() {
      int rows = 1 + random.nextInt(4), cols = 1 + random.nextInt(5);
      if (flavour < 3) { rows = 1 + random.nextInt(2); cols = 2 + random.nextInt(2); }
      Model g = new Model();
      g.make(rows, cols);
      StringBuilder s = new StringBuilder(blank() + "size" + gap() + num(rows) + gap() + num(cols) + blank() + ";");
      int sw = g.switches.size();
      int openness = random.nextInt(4);
      int longest = 1 + random.nextInt(4);
      if (sw > 0) {
        for (int i = 0; i < sw; i++) {
          if (random.nextInt(4) == 0) continue;
          int at = random.nextInt(6) == 0 ? random.nextInt(sw) : i;
          s.append(blank()).append("switch").append(gap()).append(num(at));
          int n = 1 + random.nextInt(longest);
          int[] bits = new int[n];
          for (int k = 0; k < n; k++) { bits[k] = random.nextInt(4) < openness ? 1 : 0; s.append(gap()).append(bits[k]); }
          s.append(blank()).append(";");
          g.prog[at] = bits;
        }
      }
      int wanted = random.nextInt(9);
      if (flavour == 0) wanted = 2 + random.nextInt(3);
      boolean careful = random.nextInt(4) != 0;
      for (int i = 0; i < 40 && g.start.size() < wanted; i++) {
        int slot = random.nextInt(g.slots());
        if (g.startTaken(slot)) continue;
        if (careful && i < 35) {
          boolean fits = true;
          for (int other : g.start) if (g.firstMeet(slot, other) != null) fits = false;
          if (!fits) continue;
        }
        g.start.add(slot);
        s.append(blank()).append("bobbin").append(gap()).append(num(slot)).append(";");
      }
      for (int i = 0; i < 3 && sw > 0 && random.nextInt(3) == 0; i++) {
        s.append("stuck ").append(random.nextInt(sw)).append(random.nextBoolean() ? " open" : " shut").append(blank()).append(";");
      }
      int frees = random.nextInt(3) == 0 ? random.nextInt(8) : random.nextInt(4);
      TreeSet<Integer> told = new TreeSet<>();
      for (int i = 0; i < frees && sw > 0 && told.size() < 6; i++) {
        int at = random.nextInt(sw);
        told.add(at);
        s.append("free").append(gap()).append(at).append(";").append(blank());
      }
      if (random.nextInt(3) == 0) {
        for (int i = 0; i < 2 && !g.start.isEmpty(); i++) {
          s.append("place ").append(random.nextInt(g.start.size())).append(gap()).append(num(random.nextInt(g.slots()))).append(";");
        }
      }
      if (random.nextInt(4) != 0) s.append(wordLine(g));
      return s.toString();
    }

    /** Often a WORD that the machine makes in some steps, said in another way. */
    String wordLine(Model g) {
      List<Integer> w = new ArrayList<>();
      int n = g.start.size();
      if (random.nextInt(4) != 0 && n > 1) {
        g.now = new ArrayList<>(g.start);
        int t = 1 + random.nextInt(10);
        g.step(t);
        while (g.word.size() > 24 && t > 1) { g.reset(); t--; g.step(t); }
        if (g.word.size() <= 30) w.addAll(g.word);
        for (int i = 0; i < 25; i++) scramble(w, n);
        if (random.nextInt(5) == 0) spoil(w);
      } else {
        int len = random.nextInt(6);
        for (int i = 0; i < len; i++) w.add((1 + random.nextInt(random.nextInt(4) == 0 ? 7 : Math.max(1, n - 1))) * (random.nextBoolean() ? 1 : -1));
      }
      StringBuilder s = new StringBuilder("word");
      for (int l : w) {
        if (l < 0) s.append(gap()).append('-').append(random.nextBoolean() ? "" : " ");
        else s.append(' ');
        s.append(Math.abs(l));
      }
      return s.append(blank()).append(";").toString();
    }

    void spoil(List<Integer> w) {
      if (w.isEmpty()) return;
      int i = random.nextInt(w.size());
      if (random.nextBoolean()) w.set(i, -w.get(i));
      else if (i > 0) Collections.swap(w, i, i - 1);
    }

    void scramble(List<Integer> w, int n) {
      int kind = random.nextInt(3);
      int i = w.isEmpty() ? 0 : random.nextInt(w.size());
      if (kind == 0 && w.size() < 50) {
        int l = (1 + random.nextInt(n - 1)) * (random.nextBoolean() ? 1 : -1);
        w.add(i, -l);
        w.add(i, l);
      } else if (kind == 1 && i + 1 < w.size()) {
        if (Math.abs(Math.abs(w.get(i)) - Math.abs(w.get(i + 1))) >= 2) Collections.swap(w, i, i + 1);
      } else if (i + 2 < w.size()) {
        int p = w.get(i), q = w.get(i + 1), r = w.get(i + 2);
        if (p == r && (p > 0) == (q > 0) && Math.abs(Math.abs(p) - Math.abs(q)) == 1) {
          w.set(i, q); w.set(i + 1, p); w.set(i + 2, q);
        }
      }
    }

    String faulty(String text) {
      StringBuilder s = new StringBuilder(text);
      int times = 1 + random.nextInt(2);
      for (int i = 0; i < times; i++) {
        int at = random.nextInt(s.length() + 1);
        switch (random.nextInt(9)) {
          case 0: if (at < s.length()) s.deleteCharAt(at); break;
          case 1: s.insert(at, pickText("7", "-", ";", "a", "A", "\t", " ", "é", "0", ".")); break;
          case 2: if (at < s.length()) s.setCharAt(at, pickText("9", "-", ";", "z", "#", "1", "5").charAt(0)); break;
          case 3: s.append(pickText("bobbin 0;", "bobbin 1;", "free 0;free 1;free 2;free 3;free 4;free 5;free 5;", "place 0 0;", "place 7 3;")); break;
          case 4: s.append(pickText("switch 0 1 0 1 0 1;", "switch 0 1 0 1 0 2;", "switch 0 2;", "switch 0;", "switch 31 1;", "stuck 0;", "stuck 0 ajar;", "stuck 0 open", "stuck 0 1;")); break;
          case 5: s.append("word"); int len = 59 + random.nextInt(3); for (int k = 0; k < len; k++) s.append(random.nextBoolean() ? " 1" : "-2"); s.append(pickText(";", "8;", "- 7;", "--1;")); break;
          case 6: for (int k = 0; k < 9; k++) s.append("bobbin " + (4 * k + random.nextInt(2)) + ";"); break;
          case 7: s.append(pickText("word 1000;", "word 0;", "word 8;", "word - ;", "word 1 - - 1;", "word open;", "word 007;")); break;
          default: s.setLength(at); break;
        }
      }
      if (s.length() > 880) s.setLength(880);
      return s.toString();
    }
  }

  // ---- the model

  static final class Model {
    int status = 0, rows, cols, time = 0, faultKind = -1, faultPlace = -1;
    List<int[]> switches = new ArrayList<>();
    int[][] prog;
    int[] stuck;
    boolean[] free;
    List<Integer> start = new ArrayList<>(), goal = new ArrayList<>(), now = new ArrayList<>(), word = new ArrayList<>(), wished = null;
    List<int[]> seen = new ArrayList<>();
    List<Byte> tape = new ArrayList<>();
    String out = "";
    List<List<Integer>> namedSets;

    Model() { make(1, 1); }

    void make(int r, int c) {
      rows = r; cols = c;
      switches = new ArrayList<>();
      for (int i = 0; i < r; i++) for (int j = 0; j + 1 < c; j++) switches.add(new int[] {4 * (i * c + j) + 1, 4 * (i * c + j + 1) + 3});
      for (int i = 0; i + 1 < r; i++) for (int j = 0; j < c; j++) switches.add(new int[] {4 * (i * c + j) + 2, 4 * ((i + 1) * c + j)});
      prog = new int[switches.size()][];
      for (int i = 0; i < prog.length; i++) prog[i] = new int[] {0};
      stuck = new int[switches.size()];
      free = new boolean[switches.size()];
      start = new ArrayList<>(); goal = new ArrayList<>(); now = new ArrayList<>(); word = new ArrayList<>(); seen = new ArrayList<>();
      wished = null; time = 0;
    }

    int ok(int v) { status = 0; return v; }
    int no(int s) { status = s; return -1; }
    int slots() { return 4 * rows * cols; }
    int settings() { int n = 1; for (boolean f : free) if (f) n *= 2; return n; }
    boolean isSlot(int s) { return s >= 0 && s < slots(); }
    boolean isSwitch(int s) { return s >= 0 && s < switches.size(); }
    boolean isBobbin(int b) { return b >= 0 && b < start.size(); }
    boolean isPlace(int p) { return p >= 1 && p <= start.size(); }

    int face(int slot) {
      for (int[] s : switches) { if (s[0] == slot) return s[1]; if (s[1] == slot) return s[0]; }
      return -1;
    }
    int switchOf(int slot) {
      for (int i = 0; i < switches.size(); i++) if (switches.get(i)[0] == slot || switches.get(i)[1] == slot) return i;
      return -1;
    }
    int turn(int slot) {
      int w = slot / 4, side = slot % 4, row = w / cols, col = w % cols;
      String clock = "0123", against = "0321";
      String way = (row + col) % 2 == 0 ? clock : against;
      int i = way.indexOf('0' + side);
      return 4 * w + way.charAt((i + 1) % 4) - '0';
    }
    int px(int slot) { int side = slot % 4; return 2 * (slot / 4 % cols) + (side == 1 ? 1 : side == 3 ? -1 : 0); }
    int py(int slot) { int side = slot % 4; return 2 * (slot / 4 / cols) + (side == 2 ? 1 : side == 0 ? -1 : 0); }
    boolean open(int s, int t) { return stuck[s] == 2 || stuck[s] == 0 && prog[s][t % prog[s].length] == 1; }
    int mapped(int slot, int t) {
      int to = turn(slot), s = switchOf(to);
      return s >= 0 && open(s, t) ? face(to) : to;
    }
    int period() { for (int p = 1; ; p++) { boolean all = true; for (int[] b : prog) if (p % b.length != 0) all = false; if (all) return p; } }
    boolean startTaken(int slot) { for (int s : start) if (s == slot || face(s) == slot) return true; return false; }

    /** Least switch at which two meet as all turn, or -1. */
    int meeting(List<Integer> at) {
      int least = -1;
      for (int i = 0; i < switches.size(); i++) {
        int a = 0, b = 0;
        for (int slot : at) { if (turn(slot) == switches.get(i)[0]) a++; if (turn(slot) == switches.get(i)[1]) b++; }
        if (a > 0 && b > 0 && least < 0) least = i;
      }
      return least;
    }
    List<Integer> moved(List<Integer> at, int t) {
      List<Integer> to = new ArrayList<>();
      for (int slot : at) to.add(mapped(slot, t));
      return to;
    }
    boolean before(int a, int b) { return px(a) != px(b) ? px(a) < px(b) : py(a) < py(b); }
    List<Integer> letters(List<Integer> from, List<Integer> to) {
      List<Integer> line = new ArrayList<>(), got = new ArrayList<>();
      for (int b = 0; b < from.size(); b++) line.add(b);
      line.sort((p, q) -> p.equals(q) ? 0 : before(from.get(p), from.get(q)) ? -1 : 1);
      boolean again = true;
      while (again) {
        again = false;
        for (int i = 0; i + 1 < line.size() && !again; i++) {
          int l = line.get(i), r = line.get(i + 1);
          if (before(to.get(r), to.get(l))) {
            int yl = py(from.get(l)) + py(to.get(l)), yr = py(from.get(r)) + py(to.get(r));
            boolean leftInFront = yl != yr ? yl > yr : l < r;
            got.add(leftInFront ? i + 1 : -(i + 1));
            line.set(i, r); line.set(i + 1, l);
            again = true;
          }
        }
      }
      return got;
    }

    int feed(int... v) {
      if (tape.size() + 20 > 900) return -1;
      for (int i : v) for (int k = 3; k >= 0; k--) tape.add((byte) (i >>> 8 * k));
      return tape.size();
    }

    int fault(int what) { return what == 0 ? faultKind : what == 1 ? faultPlace : -1; }

    int many(int what) {
      int frees = 0, sticks = 0;
      for (boolean f : free) if (f) frees++;
      for (int s : stuck) if (s != 0) sticks++;
      int[] all = {rows, cols, switches.size(), slots(), start.size(), time, word.size(), frees, sticks, period(), seen.size(), wished == null ? -1 : wished.size()};
      return what < 0 || what > 11 ? no(1) : ok(all[what]);
    }
    int gate(int s, int what) {
      if (what < 0 || what > 5) return no(1);
      if (!isSwitch(s)) return no(2);
      return ok(new int[] {prog[s].length, open(s, time) ? 1 : 0, stuck[s], free[s] ? 1 : 0, switches.get(s)[0], switches.get(s)[1]}[what]);
    }
    int bit(int s, int k) { return k < 0 ? no(1) : !isSwitch(s) ? no(2) : k >= prog[s].length ? no(5) : ok(prog[s][k]); }
    int bobbin(int b, int what) {
      if (what < 0 || what > 5) return no(1);
      if (!isBobbin(b)) return no(2);
      int stand = 0;
      for (int slot : now) if (before(slot, now.get(b))) stand++;
      return ok(new int[] {now.get(b), px(now.get(b)), py(now.get(b)), start.get(b), stand, goal.get(b)}[what]);
    }
    int at(int slot) { return !isSlot(slot) ? no(2) : now.indexOf(slot) < 0 ? no(5) : ok(now.indexOf(slot)); }
    int faces(int slot) { return !isSlot(slot) ? no(2) : face(slot) < 0 ? no(5) : ok(face(slot)); }
    int program(int s, int bits, int n) {
      if (n < 1 || n > 4 || bits < 0 || bits >= 1 << n) return no(1);
      if (!isSwitch(s)) return no(2);
      int[] b = new int[n];
      for (int k = 0; k < n; k++) b[k] = bits >> k & 1;
      if (Arrays.equals(b, prog[s])) return no(4);
      prog[s] = b;
      return ok(n);
    }
    int stick(int s, int how) {
      if (how < 0 || how > 2) return no(1);
      if (!isSwitch(s)) return no(2);
      if (stuck[s] == how) return no(4);
      int was = stuck[s];
      stuck[s] = how;
      return ok(was);
    }
    int free(int s, boolean is) {
      if (!isSwitch(s)) return no(2);
      if (free[s] == is) return no(4);
      if (is && settings() == 64) return no(3);
      free[s] = is;
      return ok(Integer.numberOfTrailingZeros(settings()));
    }
    int put(int slot) {
      if (!isSlot(slot)) return no(2);
      if (start.size() == 8) return no(3);
      if (startTaken(slot)) return no(4);
      if (time > 0) return no(7);
      start.add(slot); now.add(slot); goal.add(-1);
      return ok(start.size() - 1);
    }
    int take(int b) {
      if (!isBobbin(b)) return no(2);
      if (time > 0) return no(7);
      start.remove(b); now.remove(b); goal.remove(b);
      seen.removeIf(v -> v[0] == b);
      for (int[] v : seen) if (v[0] > b) v[0]--;
      return ok(start.size());
    }
    int wish(int b, int slot) {
      if (slot < -1) return no(1);
      if (!isBobbin(b) || slot >= slots()) return no(2);
      if (goal.get(b) == slot) return no(4);
      return ok(goal.set(b, slot));
    }
    int step(int n) {
      if (n < 1 || n > 100) return no(1);
      int done = 0;
      for (; done < n; done++) {
        if (meeting(now) >= 0) { if (done == 0) return no(6); break; }
        List<Integer> to = moved(now, time), l = letters(now, to);
        if (word.size() + l.size() > 300) { if (done == 0) return no(3); break; }
        word.addAll(l);
        now = to;
        time++;
      }
      return ok(done);
    }
    int reset() { int t = time; time = 0; now = new ArrayList<>(start); word = new ArrayList<>(); return ok(t); }
    int cut() { int n = word.size(); word = new ArrayList<>(); return ok(n); }
    int print() {
      StringBuilder s = new StringBuilder("size " + rows + " " + cols + ";");
      for (int i = 0; i < prog.length; i++) {
        if (prog[i].length == 1 && prog[i][0] == 0) continue;
        s.append("switch " + i);
        for (int b : prog[i]) s.append(" " + b);
        s.append(";");
      }
      for (int b : start) s.append("bobbin " + b + ";");
      for (int i = 0; i < stuck.length; i++) if (stuck[i] != 0) s.append("stuck " + i + (stuck[i] == 1 ? " shut;" : " open;"));
      for (int i = 0; i < free.length; i++) if (free[i]) s.append("free " + i + ";");
      for (int b = 0; b < goal.size(); b++) if (goal.get(b) >= 0) s.append("place " + b + " " + goal.get(b) + ";");
      if (wished != null) { s.append("word"); for (int l : wished) s.append(l < 0 ? " - " + -l : " " + l); s.append(";"); }
      if (s.length() > 900) return no(3);
      out = s.toString();
      return ok(out.length());
    }
    int outByte(int i) { return i < 0 ? no(1) : i >= out.length() ? no(5) : ok(out.charAt(i)); }

    // tokens first, then the grammar over them
    record Token(int at, String text, char kind) { }

    int load(int n) {
      if (n < 0 || n > tape.size()) return no(1);
      StringBuilder text = new StringBuilder();
      for (int i = 0; i < n; i++) text.append((char) (tape.get(i) & 255));
      tape = new ArrayList<>();
      Model read = new Model();
      int[] f = read.parse(text.toString());
      faultKind = f == null ? 0 : f[0];
      faultPlace = f == null ? -1 : f[1];
      if (f != null) return no(9);
      make(read.rows, read.cols);
      prog = read.prog; stuck = read.stuck; free = read.free; start = read.start; goal = read.goal; wished = read.wished;
      now = new ArrayList<>(start);
      out = "";
      return ok(slots());
    }
    static List<Token> tokens(String s) {
      List<Token> all = new ArrayList<>();
      java.util.regex.Matcher m = java.util.regex.Pattern.compile("[\\n ]+|([a-z]+)|([0-9]+)|(-)|(;)|([\\s\\S])").matcher(s);
      while (m.find()) {
        if (m.group(1) != null) all.add(new Token(m.start(), m.group(), 'w'));
        else if (m.group(2) != null) all.add(new Token(m.start(), m.group(), m.group().length() > 3 ? '?' : 'n'));
        else if (m.group(3) != null) all.add(new Token(m.start(), m.group(), '-'));
        else if (m.group(4) != null) all.add(new Token(m.start(), m.group(), ';'));
        else if (m.group(5) != null) all.add(new Token(m.start(), m.group(), '?'));
      }
      all.add(new Token(s.length(), "", '$'));
      return all;
    }
    int[] parse(String s) {
      List<Token> all = tokens(s);
      List<Token> line = new ArrayList<>();
      boolean first = true;
      for (Token t : all) {
        if (t.kind() == '?') return new int[] {1, t.at()};
        if (t.kind() == '$') return line.isEmpty() && !first ? null : new int[] {2, t.at()};
        int f = judge(line, t, first);
        if (f != 0) return new int[] {f, t.at()};
        line.add(t);
        if (t.kind() == ';') { apply(line); line.clear(); first = false; }
      }
      throw new IllegalStateException();
    }
    static int val(Token t) { return Integer.parseInt(t.text()); }
    /** The fault of a token that comes behind those of its line, 0 for none. */
    int judge(List<Token> line, Token t, boolean first) {
      int i = line.size();
      if (i == 0) {
        if (t.kind() != 'w') return 2;
        if (first) return t.text().equals("size") ? 0 : 2;
        if (!List.of("switch", "bobbin", "stuck", "free", "place", "word").contains(t.text())) return 2;
        if (t.text().equals("bobbin") && start.size() == 8) return 6;
        if (t.text().equals("free") && settings() == 64) return 6;
        return 0;
      }
      int v = t.kind() == 'n' ? val(t) : -1;
      boolean end = t.kind() == ';', number = t.kind() == 'n';
      switch (line.get(0).text()) {
        case "size":
          if (i == 3) return end ? 0 : 2;
          return !number ? 2 : v < 1 || v > (i == 1 ? 4 : 5) ? 3 : 0;
        case "switch":
          if (end && i >= 3) return 0;
          if (!number) return 2;
          if (i == 1) return v < switches.size() ? 0 : 3;
          return v > 1 ? 3 : i > 5 ? 6 : 0;
        case "bobbin":
          if (i == 2) return end ? 0 : 2;
          return !number ? 2 : v >= slots() ? 3 : startTaken(v) ? 4 : 0;
        case "stuck":
          if (i == 1) return !number ? 2 : v < switches.size() ? 0 : 3;
          if (i == 2) return t.text().equals("open") || t.text().equals("shut") ? 0 : 2;
          return end ? 0 : 2;
        case "free":
          if (i == 1) return !number ? 2 : v < switches.size() ? 0 : 3;
          return end ? 0 : 2;
        case "place":
          if (i == 1) return !number ? 2 : v < start.size() ? 0 : 3;
          if (i == 2) return !number ? 2 : v < slots() ? 0 : 3;
          return end ? 0 : 2;
        default:
          boolean minus = line.get(i - 1).kind() == '-';
          if (!minus && (end || t.kind() == '-')) return 0;
          if (!number) return 2;
          if (v < 1 || v > 7) return 3;
          long had = line.stream().filter(p -> p.kind() == 'n').count();
          return had >= 60 ? 6 : 0;
      }
    }
    void apply(List<Token> line) {
      switch (line.get(0).text()) {
        case "size": make(val(line.get(1)), val(line.get(2))); break;
        case "switch":
          int[] bits = new int[line.size() - 3];
          for (int k = 0; k < bits.length; k++) bits[k] = val(line.get(2 + k));
          prog[val(line.get(1))] = bits;
          break;
        case "bobbin": start.add(val(line.get(1))); goal.add(-1); break;
        case "stuck": stuck[val(line.get(1))] = line.get(2).text().equals("open") ? 2 : 1; break;
        case "free": free[val(line.get(1))] = true; break;
        case "place": goal.set(val(line.get(1)), val(line.get(2))); break;
        default:
          wished = new ArrayList<>();
          for (int k = 1; k < line.size(); k++) if (line.get(k).kind() == 'n') wished.add(line.get(k - 1).kind() == '-' ? -val(line.get(k)) : val(line.get(k)));
      }
    }

    int map(int t, int slot) { return t < 0 || t > 1000000 ? no(1) : !isSlot(slot) ? no(2) : ok(mapped(slot, t)); }
    int rideTo(int slot, int t, int n) { for (int i = 0; i < n; i++) slot = mapped(slot, t + i); return slot; }
    int ride(int slot, int t, int n) {
      return t < 0 || t > 1000000 || n < 0 || n > 10000 ? no(1) : !isSlot(slot) ? no(2) : ok(rideTo(slot, t, n));
    }
    int round(int slot) { return isSlot(slot) ? ok(rideTo(slot, 0, period())) : no(2); }
    TreeSet<Integer> trackOf(int slot) {
      TreeSet<Integer> all = new TreeSet<>();
      while (all.add(slot)) slot = rideTo(slot, 0, period());
      return all;
    }
    int track(int slot, int what) {
      if (what < 0 || what > 2) return no(1);
      if (!isSlot(slot)) return no(2);
      TreeSet<Integer> t = trackOf(slot);
      int in = 0;
      for (int s : start) if (t.contains(s)) in++;
      return ok(what == 0 ? t.size() : what == 1 ? t.first() : in);
    }
    static BigInteger lcm(BigInteger a, long b) { BigInteger c = BigInteger.valueOf(b); return a.multiply(c).divide(a.gcd(c)); }
    int tracks(int what) {
      if (what < 0 || what > 2) return no(1);
      TreeSet<Integer> heads = new TreeSet<>();
      int longest = 0;
      BigInteger home = BigInteger.ONE;
      for (int s = 0; s < slots(); s++) {
        TreeSet<Integer> t = trackOf(s);
        heads.add(t.first());
        longest = Math.max(longest, t.size());
        home = lcm(home, t.size());
      }
      return ok(what == 0 ? heads.size() : what == 1 ? longest : home.intValueExact());
    }
    int ofLength(int n) {
      if (n < 1) return no(1);
      int c = 0;
      for (int s = 0; s < slots(); s++) if (trackOf(s).first() == s && trackOf(s).size() == n) c++;
      return ok(c);
    }
    int[] firstMeet(int a, int b) {
      int p = period(), a0 = a, b0 = b;
      for (int t = 0; ; t++) {
        if (t > 0 && t % p == 0 && a == a0 && b == b0) return null;
        if (face(turn(a)) == turn(b)) return new int[] {t, switchOf(turn(a))};
        a = mapped(a, t);
        b = mapped(b, t);
      }
    }
    int meets(int slot, int other, int what) {
      if (what < 0 || what > 1) return no(1);
      if (!isSlot(slot) || !isSlot(other)) return no(2);
      if (slot == other || face(slot) == other) return no(4);
      int[] f = firstMeet(slot, other);
      return f == null ? no(5) : ok(f[what]);
    }
    int crash(int what) {
      if (what < 0 || what > 3) return no(1);
      List<Integer> at = now;
      int least = -1;
      for (int t = 0; t < 19200; t++) {
        least = at.size() < 2 ? -1 : quickMeeting(at);
        if (least >= 0) {
          List<Integer> who = new ArrayList<>();
          for (int b = 0; b < at.size(); b++) if (switchOf(turn(at.get(b))) == least) who.add(b);
          return ok(what == 0 ? t : what == 1 ? least : who.get(what - 2));
        }
        if (at.size() < 2) break;
        at = moved(at, time + t);
      }
      return no(5);
    }
    int quickMeeting(List<Integer> at) {
      boolean any = false;
      for (int i = 0; i < at.size() && !any; i++) for (int j = 0; j < i && !any; j++) any = face(turn(at.get(i))) == turn(at.get(j));
      return any ? meeting(at) : -1;
    }
    int repeat() {
      if (now.isEmpty()) return no(5);
      BigInteger all = BigInteger.ONE;
      int p = period();
      for (int s : now) {
        int n = 1, at = rideTo(s, time, p);
        while (at != s) { at = rideTo(at, time, p); n++; }
        all = lcm(all, n);
      }
      return ok(all.multiply(BigInteger.valueOf(p)).intValueExact());
    }
    int laid(int k) {
      if (k < 0) return no(1);
      List<Integer> l = new ArrayList<>();
      for (int s = 0; s < slots() && l.size() < 8; s++) {
        boolean fits = true;
        for (int o : l) if (fits && (face(o) == s || firstMeet(o, s) != null)) fits = false;
        if (fits) l.add(s);
      }
      return k < l.size() ? ok(l.get(k)) : no(5);
    }

    int letter(int k) { return k < 0 ? no(1) : k >= word.size() ? no(5) : ok(word.get(k)); }
    int wished(int k) { return k < 0 ? no(1) : wished == null || k >= wished.size() ? no(5) : ok(wished.get(k)); }
    boolean lacks() { for (int l : wished) if (Math.abs(l) > start.size() - 1) return true; return false; }
    static List<Integer> join(List<Integer> a, List<Integer> b) { List<Integer> c = new ArrayList<>(a); c.addAll(b); return c; }
    static List<Integer> inverse(List<Integer> a) { List<Integer> c = new ArrayList<>(); for (int i = a.size() - 1; i >= 0; i--) c.add(-a.get(i)); return c; }
    static boolean one(List<Integer> a, List<Integer> b) { return trivial(join(a, inverse(b))); }

    /** Dehornoy's handle reduction: the word of no threads crossed is the one that becomes empty. */
    static boolean trivial(List<Integer> given) {
      List<Integer> w = new ArrayList<>(given);
      int from = 0;
      outer:
      while (true) {
        for (int q = Math.max(1, from); q < w.size(); q++) {
          int e = w.get(q), i = Math.abs(e);
          for (int p = q - 1; p >= 0; p--) {
            int l = w.get(p);
            if (l == -e) {
              List<Integer> v = new ArrayList<>();
              for (int k = p + 1; k < q; k++) {
                int m = w.get(k);
                if (Math.abs(m) == i + 1) {
                  v.add(l > 0 ? -(i + 1) : i + 1);
                  v.add(m > 0 ? i : -i);
                  v.add(l > 0 ? i + 1 : -(i + 1));
                } else v.add(m);
              }
              List<Integer> n = new ArrayList<>(w.subList(0, p));
              n.addAll(v);
              n.addAll(w.subList(q + 1, w.size()));
              w = n;
              from = p;
              continue outer;
            }
            if (Math.abs(l) == i || Math.abs(l) == i - 1) break;
          }
        }
        return w.isEmpty();
      }
    }
    static int pass(int place, int l) { int i = Math.abs(l); return place == i ? i + 1 : place == i + 1 ? i : place; }

    int braid(int what) {
      if (what < 0 || what > 6) return no(1);
      if ((what == 3 || what == 6) && wished == null) return no(5);
      switch (what) {
        case 0: { int s = 0; for (int l : word) s += l > 0 ? 1 : -1; return ok(s); }
        case 1: {
          TreeSet<Integer> left = new TreeSet<>();
          for (int p = 1; p <= start.size(); p++) left.add(p);
          int loops = 0;
          while (!left.isEmpty()) {
            int p = left.first();
            loops++;
            while (left.remove(p)) for (int l : word) p = pass(p, l);
          }
          return ok(loops);
        }
        case 2: return ok(trivial(word) ? 1 : 0);
        case 3: return ok(!lacks() && one(word, wished) ? 1 : 0);
        case 4: { List<Integer> m = new ArrayList<>(); for (int l : word) m.add(-l); return ok(one(word, m) ? 1 : 0); }
        case 5: { List<Integer> r = new ArrayList<>(word); Collections.reverse(r); return ok(one(word, r) ? 1 : 0); }
        default: return ok(!lacks() && one(join(word, wished), join(wished, word)) ? 1 : 0);
      }
    }
    int ends(int place) { if (!isPlace(place)) return no(1); for (int l : word) place = pass(place, l); return ok(place); }
    int pair(int a, int b) {
      if (!isPlace(a) || !isPlace(b)) return no(1);
      if (a == b) return no(4);
      int s = 0;
      for (int l : word) {
        int a2 = pass(a, l), b2 = pass(b, l);
        if (a2 == b && b2 == a) s += l > 0 ? 1 : -1;
        a = a2;
        b = b2;
      }
      return ok(s);
    }
    int thread(int place, int what) {
      if (!isPlace(place) || what < 0 || what > 3) return no(1);
      int all = 0, front = 0, most = place, least = place;
      for (int l : word) {
        int to = pass(place, l);
        if (to != place) { all++; if (to > place && l > 0 || to < place && l < 0) front++; }
        place = to;
        most = Math.max(most, to);
        least = Math.min(least, to);
      }
      return ok(new int[] {all, front, most, least}[what]);
    }
    int times(int n) {
      if (n < 1 || n > 4) return no(1);
      if (wished == null) return no(5);
      List<Integer> w = new ArrayList<>();
      for (int i = 0; i < n; i++) w.addAll(word);
      return ok(!lacks() && one(w, wished) ? 1 : 0);
    }

    /** WHY, the STEP, the SWITCH, the BOBBIN, how many LETTERS. */
    int[] setting(int n, int k) {
      Model g = new Model();
      g.make(rows, cols);
      g.start = start;
      int j = 0;
      for (int s = 0; s < prog.length; s++) {
        g.prog[s] = prog[s];
        g.stuck[s] = stuck[s];
        if (free[s]) { g.prog[s] = new int[] {k >> j & 1}; j++; }
      }
      List<Integer> at = start, w = new ArrayList<>();
      for (int t = 0; t < n; t++) {
        int s = g.meeting(at);
        if (s >= 0) return new int[] {1, t, s, -1, -1};
        List<Integer> to = g.moved(at, t);
        w.addAll(g.letters(at, to));
        at = to;
      }
      int count = w.size() > 300 ? -1 : w.size();
      for (int b = 0; b < at.size(); b++) if (goal.get(b) >= 0 && !goal.get(b).equals(at.get(b))) return new int[] {2, -1, -1, b, count};
      if (w.size() > 300) return new int[] {3, -1, -1, -1, -1};
      if (wished != null && (lacks() || !one(w, wished))) return new int[] {4, -1, -1, -1, count};
      return new int[] {0, -1, -1, -1, count};
    }
    int search(int n) {
      if (n < 1 || n > 64) return no(1);
      for (int k = 0; k < settings(); k++) if (setting(n, k)[0] == 0) return ok(k);
      return no(5);
    }
    int refusal(int n, int k, int what) {
      if (n < 1 || n > 64 || k < 0 || k >= settings() || what < 0 || what > 4) return no(1);
      int v = setting(n, k)[what];
      return v < 0 ? no(5) : ok(v);
    }
    int refused(int n, int why) {
      if (n < 1 || n > 64 || why < 0 || why > 4) return no(1);
      int c = 0;
      for (int k = 0; k < settings(); k++) if (setting(n, k)[0] == why) c++;
      return ok(c);
    }
    int seen(int b, int steps, int slot) {
      if (steps < 0 || steps > 64) return no(1);
      if (!isBobbin(b) || !isSlot(slot)) return no(2);
      if (seen.size() == 12) return no(3);
      seen.add(new int[] {b, steps, slot});
      return ok(seen.size());
    }
    int forget() { int n = seen.size(); seen = new ArrayList<>(); return ok(n); }

    boolean tooDear() { return switches.size() > 20 && start.size() > 5 && !seen.isEmpty() && seen.get(seen.size() - 1)[1] > 12; }
    Model stuckLike(int[] how) {
      Model g = new Model();
      g.make(rows, cols);
      g.prog = prog;
      g.stuck = how;
      return g;
    }
    Integer whereIf(int[] how, int b, int t) {
      Model g = stuckLike(how);
      List<Integer> at = start;
      for (int i = 0; i < t; i++) { if (g.quickMeeting(at) >= 0) return null; at = g.moved(at, i); }
      return at.get(b);
    }
    boolean explains(List<Integer> set) {
      int[] how = new int[switches.size()];
      for (int m : set) how[m / 2] = m % 2 == 1 ? 2 : 1;
      Model g = stuckLike(how);
      int last = 0;
      for (int[] v : seen) last = Math.max(last, v[1]);
      List<Integer> at = start;
      for (int t = 0; ; t++) {
        for (int[] v : seen) if (v[1] == t && at.get(v[0]) != v[2]) return false;
        if (t == last) return true;
        if (g.quickMeeting(at) >= 0) return false;
        at = g.moved(at, t);
      }
    }
    void findNamed() {
      namedSets = new ArrayList<>();
      if (explains(List.of())) { namedSets.add(List.of()); return; }
      int n = 2 * switches.size();
      for (int a = 0; a < n; a++) if (explains(List.of(a))) namedSets.add(List.of(a));
      if (!namedSets.isEmpty()) return;
      for (int a = 0; a < n; a++) for (int b = 0; b < n; b++) if (b / 2 > a / 2 && explains(List.of(a, b))) namedSets.add(List.of(a, b));
    }
    int name(int what) {
      if (what < 0 || what > 1) return no(1);
      findNamed();
      return namedSets.isEmpty() ? no(5) : ok(what == 1 ? namedSets.size() : namedSets.get(0).size());
    }
    int named(int i, int k) {
      if (i < 0 || k < 0) return no(1);
      findNamed();
      return i >= namedSets.size() || k >= namedSets.get(i).size() ? no(5) : ok(namedSets.get(i).get(k));
    }
  }
}
