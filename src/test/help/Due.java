/** What the tests share: answers held against those that are due, and texts brought to the tape. */
public class Due {
  protected static final int NONE = -1;
  private static final int PROMISES = 46;
  private static int wrong = 0;
  private static int asked = 0;
  private static final int[] askedOf = new int[PROMISES + 1];

  /** An answer and the STATUS behind it. */
  protected static void ask(int promise, String call, HornBraider x, int got, int want, int status) {
    int is = x.status();
    count(promise);
    if (got != want || is != status) {
      complain(promise, call + " answered " + got + " with status " + is + ", due is " + want + " with " + status);
    }
  }

  /** An answer with STATUS 0. */
  protected static void yes(int promise, String call, HornBraider x, int got, int want) {
    ask(promise, call, x, got, want, 0);
  }

  /** A refusal. */
  protected static void no(int promise, String call, HornBraider x, int got, int status) {
    ask(promise, call, x, got, NONE, status);
  }

  /** An answer of a call without a STATUS. */
  protected static void plain(int promise, String call, int got, int want) {
    count(promise);
    if (got != want) {
      complain(promise, call + " answered " + got + ", due is " + want);
    }
  }

  protected static void same(int promise, String what, String got, String want) {
    count(promise);
    if (!got.equals(want)) {
      complain(promise, what + ": " + got + ", due is " + want);
    }
  }

  private static void count(int promise) {
    asked++;
    askedOf[promise]++;
  }

  private static void complain(int promise, String what) {
    wrong++;
    System.out.println("promise " + promise + ": " + what);
  }

  /** The end of a test that must have asked for each promise. */
  protected static void endOfAll() {
    for (int promise = 1; promise <= PROMISES; promise++) {
      if (askedOf[promise] == 0) {
        complain(promise, "nothing was asked");
      }
    }
    end();
  }

  protected static void end() {
    System.out.println(wrong == 0 ? asked + " answers are as due" : wrong + " of " + asked + " answers are not as due");
    if (wrong != 0) System.exit(1);
  }

  protected static void feedText(HornBraider x, String text) {
    for (int i = 0; i < text.length(); i += 20) {
      int[] v = new int[5];
      for (int k = 0; k < 20; k++) {
        int sign = i + k < text.length() ? text.charAt(i + k) : 32;
        v[k / 4] = v[k / 4] << 8 | sign;
      }
      x.feed(v[0], v[1], v[2], v[3], v[4]);
    }
  }

  protected static int loadText(HornBraider x, String text) {
    feedText(x, text);
    return x.load(text.length());
  }

  protected static HornBraider of(String text) {
    HornBraider x = new HornBraider();
    loadText(x, text);
    if (x.status() != 0) {
      complain(4, "a text has fault " + x.fault(0) + " at " + x.fault(1) + ": " + text);
    }
    return x;
  }

  /** A text whose FAULT and its place are known. */
  protected static void fault(String text, int kind, int place) {
    HornBraider x = new HornBraider();
    no(5, "load: " + text, x, loadText(x, text), 9);
    plain(5, "fault(0): " + text, x.fault(0), kind);
    plain(5, "fault(1): " + text, x.fault(1), place);
  }

  protected static String outText(HornBraider x, int n) {
    StringBuilder s = new StringBuilder();
    for (int i = 0; i < n; i++) {
      s.append((char) x.out(i));
    }
    return s.toString();
  }

  protected static String repeated(String text, int n) {
    return text.repeat(n);
  }
}
