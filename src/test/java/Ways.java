import java.util.ArrayList;
import java.util.List;

/**
 * Where bobbins come to, and what is asked of them on the way: each answer is held against a small model
 * (Grid) that goes step by step, for all slots, or all pairs of slots, of a few machines.
 */
public final class Ways extends Due {
  /** Five machines: one by programs of 1 to 4 bits, one shut, one open, one wide, one with long tracks. */
  private static final Grid[] GRIDS = {
    new Grid(2, 3, "1 0 1,1,0 0 1,0,0 1,0,1 1 1 0"),
    new Grid(2, 2, "0,0,0,0"),
    new Grid(3, 2, "1,1,1,1,1,1,1"),
    new Grid(1, 5, "0 1 1,1 0 0 1,1,0 1"),
    new Grid(4, 5, "0,0,0,1,1,0,1,0,1,0,1,1,1,1,0,1,1,1,0,1,1,0,1,1,1,1,0,0,1,1,0"),
  };

  public static void main(String[] args) {
    for (Grid g : GRIDS) {
      maps(g);
      rides(g);
      rounds(g);
      points(g);
      meetings(g);
      sameOnTheWay(g);
    }
    fronts();
    lettersAtOnce();
    placesPrinted();
    namedByTrials();
    end();
  }

  // ---- promises 23, 24, 25, 26

  private static void maps(Grid g) {
    for (int t : new int[] {0, 1, 2, 3, 4, 11, 12, 999999, 1000000}) {
      HornBraider x = of(g.text);
      for (int slot = 0; slot < g.slots; slot++) {
        yes(23, "map(" + t + "," + slot + ") of " + g.text, x, x.map(t, slot), g.map(t, slot));
      }
    }
  }

  private static void rides(Grid g) {
    for (int t : new int[] {0, 1, 2, 5, 7, 1000000}) {
      for (int n : new int[] {1, 2, 13, 59, 100, 997, 10000}) {
        HornBraider x = of(g.text);
        for (int slot = 0; slot < g.slots; slot++) {
          yes(24, "ride(" + slot + "," + t + "," + n + ") of " + g.text, x, x.ride(slot, t, n), g.ride(slot, t, n));
        }
      }
    }
  }

  private static void rounds(Grid g) {
    HornBraider x = of(g.text);
    HornBraider y = of(g.text);
    int period = x.many(9);
    for (int slot = 0; slot < g.slots; slot++) {
      yes(25, "round(" + slot + ") of " + g.text, x, x.round(slot), g.ride(slot, 0, period));
      int length = 1;
      int least = slot;
      for (int here = g.ride(slot, 0, period); here != slot; here = g.ride(here, 0, period)) {
        length++;
        least = Math.min(least, here);
      }
      yes(26, "track(" + slot + ",0) of " + g.text, y, y.track(slot, 0), length);
      yes(26, "track(" + slot + ",1) of " + g.text, y, y.track(slot, 1), least);
    }
  }

  // ---- promises 9, 10, 31: behind each of some STEPS

  private static void points(Grid g) {
    for (int slot = 0; slot < g.slots; slot++) {
      HornBraider x = of(g.text);
      x.put(slot);
      int period = x.many(9);
      int here = slot;
      for (int t = 0; t < 14; t++) {
        String when = " at T " + t + ", start " + slot + ", of " + g.text;
        yes(9, "bobbin(0,0)" + when, x, x.bobbin(0, 0), here);
        yes(9, "bobbin(0,1)" + when, x, x.bobbin(0, 1), g.x(here));
        yes(9, "bobbin(0,2)" + when, x, x.bobbin(0, 2), g.y(here));
        yes(9, "bobbin(0,3)" + when, x, x.bobbin(0, 3), slot);
        yes(9, "bobbin(0,4)" + when, x, x.bobbin(0, 4), 0);
        yes(10, "at()" + when, x, x.at(here), 0);
        int home = period;
        while (g.ride(here, t, home) != here) {
          home += period;
        }
        yes(31, "repeat()" + when, x, x.repeat(), home);
        here = g.map(t, here);
        yes(18, "step(1)" + when, x, x.step(1), 1);
      }
      x.reset();
      yes(19, "bobbin(0,0) behind reset()", x, x.bobbin(0, 0), slot);
      yes(19, "bobbin(0,1) behind reset()", x, x.bobbin(0, 1), g.x(slot));
      yes(19, "bobbin(0,2) behind reset()", x, x.bobbin(0, 2), g.y(slot));
    }
  }

  // ---- promise 29

  private static void meetings(Grid g) {
    int latest = 0;
    for (int slot = 0; slot < g.slots; slot++) {
      HornBraider x = of(g.text);
      for (int other = 0; other < g.slots; other++) {
        String call = "meets(" + slot + "," + other + ",";
        if (slot == other || g.facing(slot) == other) {
          no(29, call + "0) of " + g.text, x, x.meets(slot, other, 0), 4);
          continue;
        }
        int due = g.meeting(slot, other);
        ask(29, call + "0) of " + g.text, x, x.meets(slot, other, 0), due, due == NONE ? 5 : 0);
        int gate = due == NONE ? NONE : g.gateAt(g.turned(g.ride(slot, 0, due)));
        ask(29, call + "1) of " + g.text, x, x.meets(slot, other, 1), gate, due == NONE ? 5 : 0);
        latest = Math.max(latest, due);
      }
    }
    plain(29, "the latest meeting of all is late", g.slots < 80 || latest > 160 ? 1 : 0, 1);
  }

  // ---- promises 23 to 29, 32: they look from STEP 0 on, whatever T is

  private static void sameOnTheWay(Grid g) {
    for (int t = 1; t < 12; t++) {
      HornBraider x = of(g.text);
      HornBraider y = of(g.text);
      x.put(0);
      y.put(0);
      y.step(t);
      String when = " at T " + t + " of " + g.text;
      for (int k = 0; k < 9; k++) {
        // what other calls tried out must not stay
        y.meets(g.slots - 1, g.slots - 3, 0);
        y.refusal(1 + k, 0, 0);
        ask(32, "laid(" + k + ")" + when, y, y.laid(k), x.laid(k), x.status());
      }
      for (int what = 0; what < 3; what++) {
        yes(27, "tracks(" + what + ")" + when, y, y.tracks(what), x.tracks(what));
        yes(26, "track(1," + what + ")" + when, y, y.track(1, what), x.track(1, what));
        yes(28, "ofLength()" + when, y, y.ofLength(4 * what + 4), x.ofLength(4 * what + 4));
      }
      for (int slot = 0; slot < Math.min(g.slots, 16); slot++) {
        yes(23, "map(1," + slot + ")" + when, y, y.map(1, slot), x.map(1, slot));
        yes(24, "ride(" + slot + ",1,5)" + when, y, y.ride(slot, 1, 5), x.ride(slot, 1, 5));
        yes(25, "round(" + slot + ")" + when, y, y.round(slot), x.round(slot));
        for (int other = 0; other < slot; other += 3) {
          ask(29, "meets(" + slot + "," + other + ",0)" + when, y, y.meets(slot, other, 0), x.meets(slot, other, 0), x.status());
        }
      }
    }
  }

  // ---- part 2: who is in FRONT

  /** Each pair of STARTS, each setting of four switches: one STEP, its LETTER. */
  private static void fronts() {
    for (int k = 0; k < 16; k++) {
      frontsOf(new Grid(2, 2, (k & 1) + "," + (k >> 1 & 1) + "," + (k >> 2 & 1) + "," + (k >> 3 & 1)));
    }
    frontsOf(new Grid(3, 3, "0,0,0,0,0,0,0,0,0,0,0,0"));
    frontsOf(new Grid(3, 3, "1,1,1,1,1,1,1,1,1,1,1,1"));
    frontsOf(new Grid(3, 3, "1,0,1,1,0,0,1,0,0,1,1,0"));
    frontsOf(new Grid(3, 3, "0,1,0,0,1,1,0,1,1,0,0,1"));
  }

  private static void frontsOf(Grid g) {
    for (int one = 0; one < g.slots; one++) {
      for (int other = 0; other < g.slots; other++) {
        if (one != other && g.facing(one) != other) {
          frontOf(g, one, other);
        }
      }
    }
  }

  private static void frontOf(Grid g, int one, int other) {
    HornBraider x = of(g.text);
    x.put(one);
    x.put(other);
    String what = " of " + one + " and " + other + " in " + g.text;
    if (g.facing(g.turned(one)) == g.turned(other)) {
      no(18, "step(1)" + what, x, x.step(1), 6);
      return;
    }
    yes(18, "step(1)" + what, x, x.step(1), 1);
    int one2 = g.map(0, one);
    int other2 = g.map(0, other);
    boolean before = g.isAhead(one, other);
    boolean behind = g.isAhead(one2, other2);
    yes(9, "bobbin(0,4)" + what, x, x.bobbin(0, 4), behind ? 0 : 1);
    if (before == behind) {
      yes(6, "many(6)" + what, x, x.many(6), 0);
      return;
    }
    int toRight = before ? g.y(one) + g.y(one2) : g.y(other) + g.y(other2);
    int toLeft = before ? g.y(other) + g.y(other2) : g.y(one) + g.y(one2);
    yes(6, "many(6)" + what, x, x.many(6), 1);
    yes(33, "letter(0)" + what, x, x.letter(0), toRight > toLeft ? 1 : -1);
    yes(38, "thread(1,1)" + what, x, x.thread(1, 1), toRight > toLeft ? 1 : 0);
    yes(38, "thread(2,1)" + what, x, x.thread(2, 1), toRight > toLeft ? 0 : 1);
  }

  /** Eight BOBBINS with 15 LETTERS in one STEP, the most that were found; and fewer of them. */
  private static void lettersAtOnce() {
    Grid g = new Grid(4, 5, "0,0,1,0,1,1,0,0,1,1,0,0,1,1,0,0,0,1,1,0,0,1,1,1,1,0,1,0,1,0,1");
    int[] starts = {7, 21, 26, 61, 4, 47, 62, 40};
    for (int left = 8; left >= 2; left--) {
      HornBraider x = of(g.text);
      for (int b = 0; b < left; b++) {
        x.put(starts[b]);
      }
      List<Integer> due = g.letters(starts, left);
      plain(33, "so many at once", left < 8 || due.size() == 15 ? 1 : 0, 1);
      yes(41, "refusal(1,0,4) of " + left, x, x.refusal(1, 0, 4), due.size());
      yes(18, "step(1) of " + left, x, x.step(1), 1);
      yes(6, "many(6) of " + left, x, x.many(6), due.size());
      for (int k = 0; k < due.size(); k++) {
        yes(33, "letter(" + k + ") of " + left, x, x.letter(k), due.get(k));
      }
    }
  }

  // ---- promise 21

  /** A BOBBIN without a wished SLOT has no LINE place. */
  private static void placesPrinted() {
    HornBraider x = of("size 1 3;bobbin 0;bobbin 2;bobbin 8;");
    printed(x, "size 1 3;bobbin 0;bobbin 2;bobbin 8;");
    x.wish(1, 11);
    printed(x, "size 1 3;bobbin 0;bobbin 2;bobbin 8;place 1 11;");
    x.wish(2, 0);
    x.wish(0, 2);
    x.wish(1, NONE);
    printed(x, "size 1 3;bobbin 0;bobbin 2;bobbin 8;place 0 2;place 2 0;");
    x.take(0);
    printed(x, "size 1 3;bobbin 2;bobbin 8;place 1 0;");
    x.take(1);
    printed(x, "size 1 3;bobbin 2;");
  }

  private static void printed(HornBraider x, String due) {
    yes(21, "print()", x, x.print(), due.length());
    same(21, "its text", outText(x, due.length()), due);
  }

  // ---- promises 45, 46

  /** What is NAMED, held against a trial of each set: its SWITCHES are stuck, and the BOBBINS go. */
  private static void namedByTrials() {
    String programs = "switch 0 1 0 1;switch 1 1;switch 2 0 0 1;switch 6 1 1 1 0;";
    int[] needed = new int[4];
    for (int seed = 1; seed <= 60; seed++) {
      String text = "size 2 3;" + (seed % 3 == 0 ? "" : programs) + "bobbin " + seed % 4 + ";bobbin " + (20 + seed / 4 % 4) + ";";
      int[][] seen = seenBy(text, seed);
      List<int[]> due = explaining(text, seen);
      HornBraider x = of(text);
      for (int[] s : seen) {
        x.seen(s[0], s[1], s[2]);
      }
      String what = " of seed " + seed;
      if (due.isEmpty()) {
        no(45, "name(0)" + what, x, x.name(0), 5);
        needed[3]++;
        continue;
      }
      needed[due.get(0).length]++;
      yes(45, "name(0)" + what, x, x.name(0), due.get(0).length);
      yes(45, "name(1)" + what, x, x.name(1), due.size());
      for (int i = 0; i < Math.min(due.size(), 100); i++) {
        for (int k = 0; k < due.get(i).length; k++) {
          yes(46, "named(" + i + "," + k + ")" + what, x, x.named(i, k), due.get(i)[k]);
        }
      }
    }
    for (int n = 0; n < 4; n++) {
      plain(45, "sets of " + n + " (3: none) were due", needed[n] > 0 ? 1 : 0, 1);
    }
  }

  /** Where BOBBINS are with some SWITCHES stuck, three of them with each fourth seed. */
  private static int[][] seenBy(String text, int seed) {
    HornBraider x = of(text);
    int stuck = seed % 4;
    for (int i = 0; i < stuck; i++) {
      x.stick((seed * 5 + i * 3) % 7, 1 + (seed / 2 + i) % 2);
    }
    int[][] seen = new int[4][];
    int steps = 0;
    for (int i = 0; i < seen.length; i++) {
      int more = 1 + (seed + i) % 5;
      for (int k = 0; k < more; k++) {
        steps += Math.max(x.step(1), 0);
      }
      seen[i] = new int[] {(seed + i) % 2, steps, x.bobbin((seed + i) % 2, 0)};
    }
    return seen;
  }

  private static List<int[]> explaining(String text, int[][] seen) {
    List<int[]> found = new ArrayList<>();
    if (explains(text, seen)) {
      found.add(new int[0]);
      return found;
    }
    for (int a = 0; a < 14; a++) {
      if (explains(text, seen, a)) found.add(new int[] {a});
    }
    if (!found.isEmpty()) {
      return found;
    }
    for (int a = 0; a < 14; a++) {
      for (int b = 0; b < 14; b++) {
        if (a / 2 < b / 2 && explains(text, seen, a, b)) found.add(new int[] {a, b});
      }
    }
    return found;
  }

  private static boolean explains(String text, int[][] seen, int... set) {
    HornBraider x = of(text);
    for (int member : set) {
      x.stick(member / 2, 1 + member % 2);
    }
    int steps = 0;
    for (int[] s : seen) {
      while (steps < s[1]) {
        if (x.step(1) != 1) return false;
        steps++;
      }
      if (x.bobbin(s[0], 0) != s[2]) return false;
    }
    return true;
  }

  /** Wheels, slots and switches by the document's part 1, without what the class has of them. */
  private static final class Grid {
    private final int columns;
    private final int slots;
    private final String text;
    private final List<int[]> gates = new ArrayList<>();
    private final List<int[]> programs = new ArrayList<>();

    private Grid(int rows, int columns, String bits) {
      this.columns = columns;
      slots = 4 * rows * columns;
      for (int slot = 0; slot < slots; slot++) {
        if (slot % 4 == 1 && slot / 4 % columns + 1 < columns) gates.add(new int[] {slot, slot + 6});
      }
      for (int slot = 0; slot < slots; slot++) {
        if (slot % 4 == 2 && slot / 4 / columns + 1 < rows) gates.add(new int[] {slot, slot - 2 + 4 * columns});
      }
      StringBuilder all = new StringBuilder("size " + rows + " " + columns + ";");
      String[] each = bits.split(",");
      for (int s = 0; s < each.length; s++) {
        all.append("switch ").append(s).append(" ").append(each[s]).append(";");
        String[] ones = each[s].split(" ");
        int[] program = new int[ones.length];
        for (int k = 0; k < ones.length; k++) {
          program[k] = Integer.parseInt(ones[k]);
        }
        programs.add(program);
      }
      text = all.toString();
      if (programs.size() != gates.size()) throw new IllegalArgumentException(text);
    }

    private int turned(int slot) {
      int wheel = slot / 4;
      int clock = (wheel / columns + wheel % columns) % 2 == 0 ? 1 : 3;
      return 4 * wheel + (slot + clock) % 4;
    }

    private int gateAt(int slot) {
      for (int s = 0; s < gates.size(); s++) {
        if (gates.get(s)[0] == slot || gates.get(s)[1] == slot) return s;
      }
      return NONE;
    }

    private int facing(int slot) {
      int s = gateAt(slot);
      return s == NONE ? NONE : gates.get(s)[0] + gates.get(s)[1] - slot;
    }

    private int map(int t, int slot) {
      int to = turned(slot);
      int s = gateAt(to);
      return s != NONE && programs.get(s)[t % programs.get(s).length] == 1 ? facing(to) : to;
    }

    private int ride(int slot, int t, int n) {
      int here = slot;
      for (int i = 0; i < n; i++) {
        here = map(t + i, here);
      }
      return here;
    }

    private int meeting(int slot, int other) {
      int one = slot;
      int two = other;
      for (int t = 0; t == 0 || t % 12 != 0 || one != slot || two != other; t++) {
        if (facing(turned(one)) == turned(two)) return t;
        one = map(t, one);
        two = map(t, two);
      }
      return NONE;
    }

    private int x(int slot) {
      int[] more = {0, 1, 0, -1};
      return 2 * (slot / 4 % columns) + more[slot % 4];
    }

    private int y(int slot) {
      int[] more = {-1, 0, 1, 0};
      return 2 * (slot / 4 / columns) + more[slot % 4];
    }

    /** The LETTERS of STEP 0, by the document's words: again and again the first two that stand wrong. */
    private List<Integer> letters(int[] starts, int count) {
      List<Integer> line = new ArrayList<>();
      for (int b = 0; b < count; b++) {
        int i = 0;
        while (i < b && isAhead(line.get(i), starts[b])) i++;
        line.add(i, starts[b]);
      }
      List<Integer> letters = new ArrayList<>();
      for (int i = 0; i + 1 < count; i++) {
        int toRight = line.get(i);
        int toLeft = line.get(i + 1);
        if (isAhead(map(0, toLeft), map(0, toRight))) {
          boolean front = y(toRight) + y(map(0, toRight)) > y(toLeft) + y(map(0, toLeft));
          letters.add(front ? i + 1 : -(i + 1));
          line.set(i, toLeft);
          line.set(i + 1, toRight);
          i = -1;
        }
      }
      return letters;
    }

    private boolean isAhead(int one, int other) {
      return x(one) < x(other) || x(one) == x(other) && y(one) < y(other);
    }
  }
}
