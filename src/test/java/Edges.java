/**
 * The boundary cases that the document's sentences name, promise by promise: the last value that is
 * allowed, the first that is not, the empty and the full case, and which STATUS comes first where two
 * hold. That a refused call changes nothing else is for Refusals.
 */
public final class Edges extends Due {
  private static final int MIN = Integer.MIN_VALUE;
  private static final int MAX = Integer.MAX_VALUE;
  private static final String EIGHT = "bobbin 0;bobbin 2;bobbin 4;bobbin 6;bobbin 8;bobbin 10;bobbin 12;bobbin 14;";
  private static final String SIX = "free 0;free 1;free 2;free 3;free 4;free 5;";

  public static void main(String[] args) {
    newObject();
    statusOfLatest();
    tapeBytes();
    tapeFull();
    loadLength();
    loadAnew();
    smallerBehindLarger();
    faultTold();
    manyOf();
    periods();
    sizes();
    switchNumbers();
    gateEdges();
    bitEdges();
    bobbinEdges();
    orders();
    atEdges();
    facesEdges();
    programEdges();
    programWraps();
    stickEdges();
    freeEdges();
    putEdges();
    takeEdges();
    wishEdges();
    stepEdges();
    stepMeets();
    stepFull();
    resetAndCut();
    printEdges();
    outEdges();
    mapEdges();
    rideEdges();
    roundEdges();
    trackEdges();
    phases();
    meetsEdges();
    crashEdges();
    repeatEdges();
    laidEdges();
    letterEdges();
    wishedEdges();
    braidEdges();
    braidRules();
    longUndone();
    threadEdges();
    timesEdges();
    searchEdges();
    refusalEdges();
    refusedEdges();
    whyOrder();
    eachCallAnew();
    seenEdges();
    nameEdges();
    namedEdges();
    endOfAll();
  }

  // ---- promises 1 to 5

  private static void newObject() {
    HornBraider x = new HornBraider();
    plain(1, "status() of a new object", x.status(), 0);
    plain(1, "the tape of a new object", x.feed(0, 0, 0, 0, 0), 20);
    yes(1, "one wheel: slots", x, x.many(3), 4);
    yes(1, "one wheel: switches", x, x.many(2), 0);
    yes(1, "no bobbins", x, x.many(4), 0);
    yes(1, "nothing wished", x, x.many(11), NONE);
    yes(1, "nothing seen", x, x.forget(), 0);
    yes(1, "T", x, x.reset(), 0);
    yes(1, "the word", x, x.cut(), 0);
    for (int slot = 0; slot < 4; slot++) {
      no(1, "at(" + slot + ")", x, x.at(slot), 5);
      no(1, "faces(" + slot + ")", x, x.faces(slot), 5);
      yes(1, "map(0," + slot + ")", x, x.map(0, slot), (slot + 1) % 4);
    }
  }

  private static void statusOfLatest() {
    HornBraider x = new HornBraider();
    no(2, "tracks(3)", x, x.tracks(3), 1);
    plain(2, "feed() has none", x.feed(0, 0, 0, 0, 0), 20);
    plain(2, "status() behind feed()", x.status(), 1);
    plain(2, "fault() has none", x.fault(9), NONE);
    plain(2, "status() behind fault()", x.status(), 1);
    plain(2, "status() behind status()", x.status(), 1);
    no(2, "at(4)", x, x.at(4), 2);
    no(2, "load(20) of zeros", x, x.load(20), 9);
    for (int i = 0; i < 45; i++) {
      x.feed(0, 0, 0, 0, 0);
    }
    plain(2, "feed() that is too much", x.feed(0, 0, 0, 0, 0), NONE);
    plain(2, "status() behind feed() that is too much", x.status(), 9);
    yes(2, "reset()", x, x.reset(), 0);
    plain(2, "status() behind reset()", x.status(), 0);
  }

  /** The highest byte of each int comes first, a, b, c, d, e one behind the other. */
  private static void tapeBytes() {
    for (int place = 0; place < 20; place++) {
      int[] v = {0x20202020, 0x20202020, 0x20202020, 0x20202020, 0x20202020};
      // a byte that begins no token, 128 or above so that the int is below 0 where it is the highest
      v[place / 4] = v[place / 4] & ~(255 << 24 - place % 4 * 8) | 200 << 24 - place % 4 * 8;
      HornBraider x = new HornBraider();
      plain(3, "feed()", x.feed(v[0], v[1], v[2], v[3], v[4]), 20);
      no(3, "load(20)", x, x.load(20), 9);
      plain(3, "the fault of byte " + place, x.fault(0), 1);
      plain(3, "the place of byte " + place, x.fault(1), place);
    }
  }

  private static void tapeFull() {
    String text = "size 1 1;" + " ".repeat(886) + "word;";
    HornBraider x = new HornBraider();
    for (int i = 0; i < 900; i += 20) {
      feedText(x, text.substring(i, i + 20));
    }
    plain(3, "feed() beyond 900", x.feed(0, 0, 0, 0, 0), NONE);
    no(3, "load(901)", x, x.load(901), 1);
    yes(3, "load(900), as it was", x, x.load(900), 4);
    yes(3, "the word at its end", x, x.many(11), 0);
    plain(3, "feed(), the tape is empty", x.feed(0, 0, 0, 0, 0), 20);
    HornBraider y = new HornBraider();
    for (int i = 1; i <= 45; i++) {
      plain(3, "feed() number " + i, y.feed(0, 0, 0, 0, 0), 20 * i);
    }
    plain(3, "feed() number 46", y.feed(0, 0, 0, 0, 0), NONE);
    plain(3, "feed() number 47", y.feed(0, 0, 0, 0, 0), NONE);
    HornBraider z = new HornBraider();
    feedText(z, text);
    no(3, "load(899)", z, z.load(899), 9);
    plain(3, "its fault, the end", z.fault(0), 2);
    plain(3, "its place, the text's length", z.fault(1), 899);
  }

  private static void loadLength() {
    HornBraider x = new HornBraider();
    no(4, "load(1), the tape is empty", x, x.load(1), 1);
    no(4, "load(-1), the tape is empty", x, x.load(-1), 1);
    no(4, "load(0), the tape is empty", x, x.load(0), 9);
    plain(4, "its fault", x.fault(0), 2);
    plain(4, "its place", x.fault(1), 0);
    feedText(x, "size 1 2;");
    no(4, "load(21) of 20", x, x.load(21), 1);
    no(4, "load(MAX)", x, x.load(MAX), 1);
    no(4, "load(MIN)", x, x.load(MIN), 1);
    no(4, "load(-1) of 20", x, x.load(-1), 1);
    plain(4, "fault(0), as it was", x.fault(0), 2);
    plain(4, "the tape, as it was", x.feed(0x20202020, 0x20202020, 0x20202020, 0x20202020, 0x20202020), 40);
    yes(4, "load(40) of 40", x, x.load(40), 8);
    no(4, "load(1), the tape is empty then", x, x.load(1), 1);
    feedText(x, "size 1 3;nonsense");
    yes(4, "load(9), the rest is not read", x, x.load(9), 12);
    plain(4, "the rest is gone", x.feed(0, 0, 0, 0, 0), 20);
    no(4, "load(19) with a fault", x, x.load(19), 9);
    plain(4, "the rest is gone with a fault too", x.feed(0, 0, 0, 0, 0), 20);
    feedText(x, "size 1 1;");
    no(4, "load(0) of 40", x, x.load(0), 9);
    plain(4, "the tape is empty behind load(0)", x.feed(0, 0, 0, 0, 0), 20);
  }

  private static void loadAnew() {
    HornBraider x = of("size 1 2;switch 0 1 0;stuck 0 open;free 0;bobbin 0;bobbin 5;place 0 3;word 1;");
    x.seen(0, 1, 1);
    x.step(2);
    x.print();
    yes(4, "load() of the same size", x, loadText(x, "size 1 2;"), 8);
    int[] due = {1, 2, 1, 8, 0, 0, 0, 0, 0, 1, 0, NONE};
    for (int what = 0; what < due.length; what++) {
      yes(4, "many(" + what + ") anew", x, x.many(what), due[what]);
    }
    yes(4, "gate(0,1) anew", x, x.gate(0, 1), 0);
    yes(4, "bit(0,0) anew", x, x.bit(0, 0), 0);
    no(4, "bit(0,1) anew", x, x.bit(0, 1), 5);
    no(4, "letter(0) anew", x, x.letter(0), 5);
    no(4, "wished(0) anew", x, x.wished(0), 5);
    yes(4, "put(0) anew", x, x.put(0), 0);
    yes(4, "its wished slot", x, x.bobbin(0, 5), NONE);
    // a text with a fault at its end leaves nothing of what it told behind, in a later text either
    no(4, "a text with a fault", x, loadText(x, "size 1 2;switch 0 1;stuck 0 open;free 0;bobbin 4;place 0 4;word 1;x"), 9);
    yes(4, "gate(0,1) behind it", x, x.gate(0, 1), 0);
    yes(4, "many(11) behind it", x, x.many(11), NONE);
    yes(4, "a text without one", x, loadText(x, "size 1 2;bobbin 1;"), 8);
    for (int what = 4; what < due.length; what++) {
      yes(4, "many(" + what + ") behind both", x, x.many(what), what == 4 ? 1 : due[what]);
    }
    yes(4, "gate(0,1) behind both", x, x.gate(0, 1), 0);
    yes(4, "bobbin(0,5) behind both", x, x.bobbin(0, 5), NONE);
    no(4, "wished(0) behind both", x, x.wished(0), 5);
  }

  /** Nothing of a larger machine is left in a smaller one, however often it is loaded. */
  private static void smallerBehindLarger() {
    HornBraider x = of("size 4 5;switch 0 1;switch 30 1;stuck 1 open;" + SIX + EIGHT + "place 7 79;word 1 2;");
    x.seen(7, 64, 79);
    x.tracks(0);
    x.laid(7);
    for (int i = 0; i < 3; i++) {
      yes(4, "load() of one wheel", x, loadText(x, "size 1 1;"), 4);
      int[] due = {1, 1, 0, 4, 0, 0, 0, 0, 0, 1, 0, NONE};
      for (int what = 0; what < due.length; what++) {
        yes(4, "many(" + what + ") of one wheel", x, x.many(what), due[what]);
      }
      for (int slot = 0; slot < 4; slot++) {
        no(4, "faces(" + slot + ") of one wheel", x, x.faces(slot), 5);
        no(4, "at(" + slot + ") of one wheel", x, x.at(slot), 5);
        yes(4, "map(0," + slot + ") of one wheel", x, x.map(0, slot), (slot + 1) % 4);
        yes(4, "laid(" + slot + ") of one wheel", x, x.laid(slot), slot);
      }
      no(4, "at(4) of one wheel", x, x.at(4), 2);
      no(4, "laid(4) of one wheel", x, x.laid(4), 5);
      no(4, "gate(0,0) of one wheel", x, x.gate(0, 0), 2);
      no(4, "wished(0) of one wheel", x, x.wished(0), 5);
      yes(4, "tracks(0) of one wheel", x, x.tracks(0), 1);
      yes(4, "name(0) of one wheel", x, x.name(0), 0);
    }
  }

  private static void faultTold() {
    HornBraider x = new HornBraider();
    for (int what : new int[] {MIN, -1, 0, 1, 2, MAX}) {
      plain(5, "fault(" + what + ") ahead of any", x.fault(what), NONE);
    }
    x.load(1);
    plain(5, "fault(0) behind a load() with status 1", x.fault(0), NONE);
    loadText(x, "size 1 1; word 8;");
    for (int what : new int[] {MIN, -1, 2, MAX}) {
      plain(5, "fault(" + what + ")", x.fault(what), NONE);
    }
    plain(5, "fault(0)", x.fault(0), 3);
    plain(5, "fault(1)", x.fault(1), 15);
    x.load(1);
    plain(5, "fault(0), the latest with 0 or 9", x.fault(0), 3);
    plain(5, "fault(1), the latest with 0 or 9", x.fault(1), 15);
    loadText(x, "size 1 1;");
    plain(5, "fault(0) without one", x.fault(0), 0);
    plain(5, "fault(1) without one", x.fault(1), NONE);
    x.load(-1);
    plain(5, "fault(0), the latest with 0 or 9", x.fault(0), 0);
    loadText(x, "x");
    plain(5, "a fault at 0: the fault", x.fault(0), 2);
    plain(5, "a fault at 0: its place", x.fault(1), 0);
  }

  // ---- what there is: promises 6 to 11

  private static void manyOf() {
    HornBraider x = new HornBraider();
    for (int what : new int[] {MIN, -1, 12, MAX}) {
      no(6, "many(" + what + ")", x, x.many(what), 1);
    }
    HornBraider y = of("size 4 5;" + EIGHT + SIX + "word" + " 7".repeat(60) + ";");
    for (int i = 0; i < 12; i++) {
      y.seen(0, 64, 79);
    }
    for (int s = 0; s < 31; s++) {
      y.stick(s, 1 + s % 2);
    }
    int[] full = {4, 5, 31, 80, 8, 0, 0, 6, 31, 1, 12, 60};
    for (int what = 0; what < full.length; what++) {
      yes(6, "many(" + what + ") of all that can be", y, y.many(what), full[what]);
    }
    HornBraider z = of("size 1 1;word;");
    yes(6, "many(11) of an empty word", z, z.many(11), 0);
    z.many(12);
    yes(6, "many(11), none is wished", z = new HornBraider(), z.many(11), NONE);
  }

  private static void periods() {
    int[][] lengths = {{1, 1, 1, 1}, {2, 1, 1, 2}, {3, 1, 1, 3}, {4, 1, 1, 4}, {2, 2, 2, 2}, {2, 3, 1, 6}, {3, 2, 3, 6},
      {4, 2, 1, 4}, {2, 4, 2, 4}, {3, 4, 1, 12}, {4, 3, 2, 12}, {1, 1, 4, 4}};
    for (int[] row : lengths) {
      HornBraider x = of("size 1 4;");
      for (int s = 0; s < 3; s++) {
        x.program(s, 0, row[s]);
      }
      yes(6, "many(9) of " + row[0] + " " + row[1] + " " + row[2], x, x.many(9), row[3]);
    }
  }

  /** ROWS 1 to 4, COLUMNS 1 to 5. */
  private static void sizes() {
    for (int rows = 0; rows <= 5; rows++) {
      for (int columns = 0; columns <= 6; columns++) {
        String text = "size " + rows + " " + columns + ";";
        if (rows < 1 || rows > 4) {
          fault(text, 3, 5);
        } else if (columns < 1 || columns > 5) {
          fault(text, 3, 7);
        } else {
          HornBraider x = new HornBraider();
          yes(4, text, x, loadText(x, text), 4 * rows * columns);
          yes(6, "rows of " + text, x, x.many(0), rows);
          yes(6, "columns of " + text, x, x.many(1), columns);
          yes(6, "switches of " + text, x, x.many(2), rows * (columns - 1) + (rows - 1) * columns);
          yes(6, "slots of " + text, x, x.many(3), 4 * rows * columns);
        }
      }
    }
  }

  private static void gatesOf(int rows, int columns) {
    HornBraider x = of("size " + rows + " " + columns + ";");
    int s = 0;
    for (int row = 0; row < rows; row++) {
      for (int column = 0; column < columns - 1; column++, s++) {
        int wheel = row * columns + column;
        yes(7, "gate(" + s + ",4)", x, x.gate(s, 4), 4 * wheel + 1);
        yes(7, "gate(" + s + ",5)", x, x.gate(s, 5), 4 * (wheel + 1) + 3);
      }
    }
    for (int row = 0; row < rows - 1; row++) {
      for (int column = 0; column < columns; column++, s++) {
        int wheel = row * columns + column;
        yes(7, "gate(" + s + ",4)", x, x.gate(s, 4), 4 * wheel + 2);
        yes(7, "gate(" + s + ",5)", x, x.gate(s, 5), 4 * (wheel + columns));
      }
    }
    no(7, "gate(" + s + ",4), no such one", x, x.gate(s, 4), 2);
  }

  private static void switchNumbers() {
    gatesOf(4, 5);
    gatesOf(4, 1);
    gatesOf(1, 5);
    gatesOf(2, 3);
    HornBraider x = of("size 4 5;");
    int[][] due = {{0, 1, 7}, {3, 13, 19}, {4, 21, 27}, {15, 73, 79}, {16, 2, 20}, {20, 18, 36}, {21, 22, 40}, {30, 58, 76}};
    for (int[] row : due) {
      yes(7, "gate(" + row[0] + ",4) of 4 by 5", x, x.gate(row[0], 4), row[1]);
      yes(7, "gate(" + row[0] + ",5) of 4 by 5", x, x.gate(row[0], 5), row[2]);
    }
  }

  private static void gateEdges() {
    HornBraider x = of("size 4 5;");
    for (int what : new int[] {MIN, -1, 6, MAX}) {
      no(7, "gate(0," + what + ")", x, x.gate(0, what), 1);
      no(7, "gate(31," + what + "), 1 ahead of 2", x, x.gate(31, what), 1);
    }
    for (int s : new int[] {MIN, -1, 31, MAX}) {
      for (int what = 0; what <= 5; what++) {
        no(7, "gate(" + s + "," + what + ")", x, x.gate(s, what), 2);
      }
    }
    for (int s : new int[] {0, 30}) {
      yes(7, "gate(" + s + ",0)", x, x.gate(s, 0), 1);
      yes(7, "gate(" + s + ",1)", x, x.gate(s, 1), 0);
      yes(7, "gate(" + s + ",2)", x, x.gate(s, 2), 0);
      yes(7, "gate(" + s + ",3)", x, x.gate(s, 3), 0);
      x.program(s, 9, 4);
      x.stick(s, 1);
      x.free(s, true);
      yes(7, "gate(" + s + ",0) of four", x, x.gate(s, 0), 4);
      yes(7, "gate(" + s + ",1) stuck shut", x, x.gate(s, 1), 0);
      yes(7, "gate(" + s + ",2) stuck shut", x, x.gate(s, 2), 1);
      yes(7, "gate(" + s + ",3) free", x, x.gate(s, 3), 1);
      x.stick(s, 0);
      yes(7, "gate(" + s + ",1) by its program, though it is free", x, x.gate(s, 1), 1);
      x.program(s, 6, 4);
      x.stick(s, 2);
      yes(7, "gate(" + s + ",1) stuck open", x, x.gate(s, 1), 1);
      yes(7, "gate(" + s + ",2) stuck open", x, x.gate(s, 2), 2);
    }
    no(7, "gate(0,0) of one wheel", x = new HornBraider(), x.gate(0, 0), 2);
  }

  private static void bitEdges() {
    HornBraider x = of("size 1 5;switch 0 1;switch 1 0 1;switch 2 1 0 1;switch 3 0 1 1 0;");
    int[][] bits = {{1}, {0, 1}, {1, 0, 1}, {0, 1, 1, 0}};
    for (int s = 0; s < 4; s++) {
      for (int k = 0; k < bits[s].length; k++) {
        yes(8, "bit(" + s + "," + k + ")", x, x.bit(s, k), bits[s][k]);
      }
      no(8, "bit(" + s + "," + bits[s].length + ")", x, x.bit(s, bits[s].length), 5);
      no(8, "bit(" + s + ",MAX)", x, x.bit(s, MAX), 5);
      no(8, "bit(" + s + ",-1)", x, x.bit(s, -1), 1);
      no(8, "bit(" + s + ",MIN)", x, x.bit(s, MIN), 1);
    }
    for (int s : new int[] {MIN, -1, 4, MAX}) {
      no(8, "bit(" + s + ",0)", x, x.bit(s, 0), 2);
      no(8, "bit(" + s + ",9), 2 ahead of 5", x, x.bit(s, 9), 2);
      no(8, "bit(" + s + ",-1), 1 ahead of 2", x, x.bit(s, -1), 1);
    }
  }

  private static void bobbinEdges() {
    HornBraider x = of("size 4 5;" + EIGHT);
    for (int what : new int[] {MIN, -1, 6, MAX}) {
      no(9, "bobbin(0," + what + ")", x, x.bobbin(0, what), 1);
      no(9, "bobbin(8," + what + "), 1 ahead of 2", x, x.bobbin(8, what), 1);
    }
    for (int b : new int[] {MIN, -1, 8, MAX}) {
      for (int what = 0; what <= 5; what++) {
        no(9, "bobbin(" + b + "," + what + ")", x, x.bobbin(b, what), 2);
      }
    }
    yes(9, "bobbin(7,0)", x, x.bobbin(7, 0), 14);
    yes(9, "bobbin(7,5)", x, x.bobbin(7, 5), NONE);
    no(9, "bobbin(0,0), there are none", x = new HornBraider(), x.bobbin(0, 0), 2);
    // the points furthest out: left of 0, above 0, right of 19, below 19
    HornBraider y = of("size 4 5;bobbin 3;bobbin 0;bobbin 77;bobbin 78;");
    int[][] points = {{-1, 0}, {0, -1}, {9, 6}, {8, 7}};
    for (int b = 0; b < 4; b++) {
      yes(9, "bobbin(" + b + ",1)", y, y.bobbin(b, 1), points[b][0]);
      yes(9, "bobbin(" + b + ",2)", y, y.bobbin(b, 2), points[b][1]);
    }
  }

  /** By x, of like ones by y. */
  private static void orders() {
    // 3 at x -1, 0 at x 0; at x 1: 1 (y 0), 21 (y 2); at x 2: 4 (y -1), 6 (y 1), 26 (y 3); 5 at x 3
    HornBraider x = of("size 4 5;bobbin 26;bobbin 5;bobbin 6;bobbin 21;bobbin 4;bobbin 1;bobbin 0;bobbin 3;");
    int[] stands = {6, 7, 5, 3, 4, 2, 1, 0};
    for (int b = 0; b < 8; b++) {
      yes(9, "bobbin(" + b + ",4)", x, x.bobbin(b, 4), stands[b]);
    }
    HornBraider y = of("size 1 1;bobbin 2;");
    yes(9, "bobbin(0,4) of one", y, y.bobbin(0, 4), 0);
  }

  private static void atEdges() {
    HornBraider x = of("size 4 5;bobbin 79;bobbin 0;");
    yes(10, "at(79)", x, x.at(79), 0);
    yes(10, "at(0)", x, x.at(0), 1);
    no(10, "at(78)", x, x.at(78), 5);
    for (int slot : new int[] {MIN, -1, 80, MAX}) {
      no(10, "at(" + slot + ")", x, x.at(slot), 2);
    }
    x.step(1);
    // wheel 19 is in row 3, column 4: against the clock, from the left to below
    yes(10, "at(78) behind a step", x, x.at(78), 0);
    no(10, "at(79) behind a step", x, x.at(79), 5);
  }

  private static void facesEdges() {
    HornBraider x = of("size 4 5;");
    for (int slot : new int[] {MIN, -1, 80, MAX}) {
      no(11, "faces(" + slot + ")", x, x.faces(slot), 2);
    }
    // those at the rim have none: above in row 0, left in column 0, below in row 3, right in column 4
    for (int slot : new int[] {0, 16, 3, 63, 62, 78, 17, 77}) {
      no(11, "faces(" + slot + ")", x, x.faces(slot), 5);
    }
    int[][] pairs = {{1, 7}, {2, 20}, {73, 79}, {58, 76}, {38, 56}};
    for (int[] pair : pairs) {
      yes(11, "faces(" + pair[0] + ")", x, x.faces(pair[0]), pair[1]);
      yes(11, "faces(" + pair[1] + ")", x, x.faces(pair[1]), pair[0]);
    }
  }

  // ---- what is told: promises 12 to 22

  private static void programEdges() {
    HornBraider x = of("size 1 2;");
    for (int n : new int[] {MIN, -1, 0, 5, 32, 33, MAX}) {
      no(12, "program(0,0," + n + ")", x, x.program(0, 0, n), 1);
      no(12, "program(0,1," + n + ")", x, x.program(0, 1, n), 1);
    }
    for (int n = 1; n <= 4; n++) {
      int all = (1 << n) - 1;
      yes(12, "program(0," + all + "," + n + ")", x, x.program(0, all, n), n);
      yes(12, "gate(0,0)", x, x.gate(0, 0), n);
      yes(12, "its last bit", x, x.bit(0, n - 1), 1);
      no(12, "the same again", x, x.program(0, all, n), 4);
      for (int bits : new int[] {MIN, -1, all + 1, all + 2, 1 << 4, 1 << 30, MAX}) {
        no(12, "program(0," + bits + "," + n + ")", x, x.program(0, bits, n), 1);
      }
      yes(12, "program(0,0," + n + ")", x, x.program(0, 0, n), n);
      no(12, "program(0,0," + n + ") again", x, x.program(0, 0, n), 4);
    }
    for (int s : new int[] {MIN, -1, 1, MAX}) {
      no(12, "program(" + s + ",0,1)", x, x.program(s, 0, 1), 2);
      no(12, "program(" + s + ",0,5), 1 ahead of 2", x, x.program(s, 0, 5), 1);
      no(12, "program(" + s + ",2,1), 1 ahead of 2", x, x.program(s, 2, 1), 1);
    }
    yes(12, "as many bits, others", x, x.program(0, 8, 4), 4);
    yes(12, "the same bit more often is another one", x, x.program(0, 0, 1), 1);
    no(12, "as it was at first", x, x.program(0, 0, 1), 4);
    yes(12, "all ones of one bit", x, x.program(0, 1, 1), 1);
    yes(12, "all ones of two bits are another one", x, x.program(0, 3, 2), 2);
  }

  /** At STEP t the bit number (t, the rest by how many there are). */
  private static void programWraps() {
    int[] one = {1, 2, 4, 8};
    for (int n = 1; n <= 4; n++) {
      HornBraider x = of("size 1 2;");
      x.program(0, one[n - 1], n);
      for (int t = 0; t < 13; t++) {
        int due = t % n == n - 1 ? 1 : 0;
        yes(7, "gate(0,1) at T " + t + " of " + n + " bits", x, x.gate(0, 1), due);
        yes(23, "map(" + t + ",0) of " + n + " bits", x, x.map(t, 0), due == 1 ? 7 : 1);
        x.step(1);
      }
    }
    HornBraider y = of("size 1 2;switch 0 1 0;bobbin 0;");
    // over at 0, then round the other wheel; at 4 it turns to 7 and goes over again
    int[] way = {7, 6, 5, 4, 1, 2, 3, 0, 7};
    for (int t = 0; t < way.length; t++) {
      yes(18, "step(1)", y, y.step(1), 1);
      yes(18, "bobbin(0,0) behind " + (t + 1), y, y.bobbin(0, 0), way[t]);
    }
  }

  private static void stickEdges() {
    HornBraider x = of("size 1 2;switch 0 1 0;");
    for (int how : new int[] {MIN, -1, 3, MAX}) {
      no(13, "stick(0," + how + ")", x, x.stick(0, how), 1);
      no(13, "stick(1," + how + "), 1 ahead of 2", x, x.stick(1, how), 1);
    }
    for (int s : new int[] {MIN, -1, 1, MAX}) {
      no(13, "stick(" + s + ",0), 2 ahead of 4", x, x.stick(s, 0), 2);
      no(13, "stick(" + s + ",1)", x, x.stick(s, 1), 2);
    }
    int was = 0;
    for (int how : new int[] {1, 2, 1, 0, 2, 0}) {
      no(13, "stick(0," + was + ") as it is", x, x.stick(0, was), 4);
      yes(13, "stick(0," + how + ")", x, x.stick(0, how), was);
      yes(13, "gate(0,2)", x, x.gate(0, 2), how);
      yes(13, "gate(0,1) at a bit 1", x, x.gate(0, 1), how == 1 ? 0 : 1);
      yes(13, "map(1,0) at a bit 0", x, x.map(1, 0), how == 2 ? 7 : 1);
      yes(13, "many(8)", x, x.many(8), how == 0 ? 0 : 1);
      yes(13, "bit(0,0) stays", x, x.bit(0, 0), 1);
      was = how;
    }
  }

  private static void freeEdges() {
    HornBraider x = of("size 1 5;");
    for (int s : new int[] {MIN, -1, 4, MAX}) {
      no(14, "free(" + s + ",true)", x, x.free(s, true), 2);
      no(14, "free(" + s + ",false), 2 ahead of 4", x, x.free(s, false), 2);
    }
    no(14, "free(0,false), none is", x, x.free(0, false), 4);
    yes(14, "free(0,true)", x, x.free(0, true), 1);
    no(14, "free(0,true) again", x, x.free(0, true), 4);
    yes(14, "free(0,false)", x, x.free(0, false), 0);
    no(14, "free(0,false) again", x, x.free(0, false), 4);
    HornBraider y = of("size 4 5;");
    for (int i = 0; i < 6; i++) {
      yes(14, "free(" + 6 * i + ",true)", y, y.free(6 * i, true), i + 1);
    }
    no(14, "free(7,true), a seventh", y, y.free(7, true), 3);
    no(14, "free(30,true) again, 4 and not 3", y, y.free(30, true), 4);
    no(14, "free(31,true), 2 ahead of 3", y, y.free(31, true), 2);
    no(14, "free(7,false), 4", y, y.free(7, false), 4);
    yes(14, "free(30,false) of six", y, y.free(30, false), 5);
    yes(14, "free(7,true), a sixth again", y, y.free(7, true), 6);
    yes(14, "many(7)", y, y.many(7), 6);
    // six that a text told are six, too
    HornBraider z = of("size 4 5;" + SIX);
    no(14, "free(6,true) behind six of a text", z, z.free(6, true), 3);
  }

  private static void putEdges() {
    HornBraider x = of("size 4 5;");
    for (int slot : new int[] {MIN, -1, 80, MAX}) {
      no(15, "put(" + slot + ")", x, x.put(slot), 2);
    }
    yes(15, "put(79)", x, x.put(79), 0);
    no(15, "put(79) again", x, x.put(79), 4);
    no(15, "put(73), it faces 79", x, x.put(73), 4);
    yes(15, "put(0)", x, x.put(0), 1);
    yes(15, "put(2)", x, x.put(2), 2);
    no(15, "put(20), it faces 2", x, x.put(20), 4);
    yes(15, "put(1)", x, x.put(1), 3);
    no(15, "put(7), it faces 1", x, x.put(7), 4);
    yes(15, "put(3), on a rim: it faces none", x, x.put(3), 4);
    yes(15, "put(16)", x, x.put(16), 5);
    yes(15, "put(17)", x, x.put(17), 6);
    yes(15, "put(77), the eighth", x, x.put(77), 7);
    no(15, "put(78), a ninth", x, x.put(78), 3);
    no(15, "put(77), 3 ahead of 4", x, x.put(77), 3);
    no(15, "put(80), 2 ahead of 3", x, x.put(80), 2);
    yes(15, "many(4)", x, x.many(4), 8);
    x.step(1);
    no(15, "put(78), 3 ahead of 7", x, x.put(78), 3);
    HornBraider y = of("size 1 2;bobbin 0;bobbin 1;");
    yes(15, "step(1)", y, y.step(1), 1);
    no(15, "put(3), T is 1", y, y.put(3), 7);
    no(15, "put(0), 4 ahead of 7", y, y.put(0), 4);
    no(15, "put(7), it faces a start: 4 ahead of 7", y, y.put(7), 4);
    no(15, "put(2), a bobbin is there, but none has its start there", y, y.put(2), 7);
    no(15, "put(8), 2 ahead of 7", y, y.put(8), 2);
    y.reset();
    yes(15, "put(2), T is 0 again", y, y.put(2), 2);
    yes(15, "bobbin(2,0)", y, y.bobbin(2, 0), 2);
    yes(15, "bobbin(2,3)", y, y.bobbin(2, 3), 2);
    yes(15, "bobbin(2,5)", y, y.bobbin(2, 5), NONE);
  }

  private static void takeEdges() {
    // wheels 0 and 3, which never meet
    HornBraider x = of("size 2 2;bobbin 0;bobbin 1;bobbin 2;bobbin 3;bobbin 12;bobbin 13;bobbin 14;bobbin 15;");
    int[] starts = {0, 1, 2, 3, 12, 13, 14, 15};
    for (int b : new int[] {MIN, -1, 8, MAX}) {
      no(16, "take(" + b + ")", x, x.take(b), 2);
    }
    for (int b = 0; b < 8; b++) {
      x.wish(b, 4 + b);
    }
    yes(16, "take(7), the last", x, x.take(7), 7);
    no(16, "take(7), it is no more", x, x.take(7), 2);
    yes(16, "take(0), the first", x, x.take(0), 6);
    yes(16, "take(2), one in the midst", x, x.take(2), 5);
    int[] left = {1, 2, 4, 5, 6};
    // by x: 1 (x 1, y 0), 2 (x 0), 12 (x 2, y 1), 13 (x 3), 14 (x 2, y 3)
    int[] stands = {1, 0, 2, 4, 3};
    for (int b = 0; b < 5; b++) {
      yes(16, "bobbin(" + b + ",0)", x, x.bobbin(b, 0), starts[left[b]]);
      yes(16, "bobbin(" + b + ",3)", x, x.bobbin(b, 3), starts[left[b]]);
      yes(16, "bobbin(" + b + ",4)", x, x.bobbin(b, 4), stands[b]);
      yes(16, "bobbin(" + b + ",5)", x, x.bobbin(b, 5), 4 + left[b]);
    }
    no(16, "bobbin(5,0)", x, x.bobbin(5, 0), 2);
    no(16, "at(0)", x, x.at(0), 5);
    yes(16, "at(1)", x, x.at(1), 0);
    yes(16, "put(0), its start is free again", x, x.put(0), 5);
    yes(16, "bobbin(5,5), nothing is wished of it", x, x.bobbin(5, 5), NONE);
    yes(16, "step(1)", x, x.step(1), 1);
    no(16, "take(0), T is 1", x, x.take(0), 7);
    no(16, "take(6), 2 ahead of 7", x, x.take(6), 2);
    no(16, "take(-1), 2 ahead of 7", x, x.take(-1), 2);
    x.reset();
    for (int b = 5; b >= 0; b--) {
      yes(16, "take(0) of " + (b + 1), x, x.take(0), b);
    }
    no(16, "take(0), there are none", x, x.take(0), 2);
    takeSeen();
  }

  private static void takeSeen() {
    HornBraider x = of("size 1 3;bobbin 3;bobbin 2;bobbin 0;");
    x.seen(0, 0, 0);
    x.seen(2, 1, 7);
    x.seen(1, 0, 2);
    no(16, "name(0), 0 was not there", x, x.name(0), 5);
    yes(16, "take(0)", x, x.take(0), 2);
    yes(16, "many(10), what was seen of it is gone", x, x.many(10), 2);
    yes(16, "name(0), what was seen of the others has come up", x, x.name(0), 1);
    yes(16, "named(0,0)", x, x.named(0, 0), 1);
    yes(16, "take(1), the last one", x, x.take(1), 1);
    yes(16, "many(10)", x, x.many(10), 1);
    yes(16, "name(0)", x, x.name(0), 0);
    yes(16, "take(0)", x, x.take(0), 0);
    yes(16, "many(10), nothing is left", x, x.many(10), 0);
  }

  private static void wishEdges() {
    HornBraider x = of("size 4 5;bobbin 0;bobbin 2;");
    for (int slot : new int[] {MIN, -2}) {
      no(17, "wish(0," + slot + ")", x, x.wish(0, slot), 1);
      no(17, "wish(2," + slot + "), 1 ahead of 2", x, x.wish(2, slot), 1);
    }
    for (int slot : new int[] {80, MAX}) {
      no(17, "wish(0," + slot + ")", x, x.wish(0, slot), 2);
    }
    for (int b : new int[] {MIN, -1, 2, MAX}) {
      no(17, "wish(" + b + ",0)", x, x.wish(b, 0), 2);
      no(17, "wish(" + b + ",NONE), 2 ahead of 4", x, x.wish(b, NONE), 2);
    }
    no(17, "wish(0,NONE), there is none", x, x.wish(0, NONE), 4);
    yes(17, "wish(0,79)", x, x.wish(0, 79), NONE);
    no(17, "wish(0,79) again", x, x.wish(0, 79), 4);
    yes(17, "wish(1,79), two may wish for one", x, x.wish(1, 79), NONE);
    yes(17, "wish(0,0)", x, x.wish(0, 0), 79);
    no(17, "wish(0,0) again", x, x.wish(0, 0), 4);
    yes(17, "wish(0,NONE)", x, x.wish(0, NONE), 0);
    no(17, "wish(0,NONE) again", x, x.wish(0, NONE), 4);
    yes(17, "bobbin(1,5)", x, x.bobbin(1, 5), 79);
  }

  private static void stepEdges() {
    HornBraider x = new HornBraider();
    for (int n : new int[] {MIN, -1, 0, 101, MAX}) {
      no(18, "step(" + n + ")", x, x.step(n), 1);
    }
    yes(18, "step(1), no bobbins", x, x.step(1), 1);
    yes(18, "step(100), no bobbins", x, x.step(100), 100);
    yes(18, "many(5)", x, x.many(5), 101);
    // the same refusal where two meet: 1 ahead of 6
    HornBraider y = of("size 1 2;bobbin 0;bobbin 4;");
    no(18, "step(1), two meet", y, y.step(1), 6);
    no(18, "step(100), two meet", y, y.step(100), 6);
    no(18, "step(0), 1 ahead of 6", y, y.step(0), 1);
    no(18, "step(101), 1 ahead of 6", y, y.step(101), 1);
    yes(18, "many(5), not one was done", y, y.many(5), 0);
  }

  /** Two MEET in both SLOTS of a SWITCH, be it OPEN or SHUT; at a rim none do. */
  private static void stepMeets() {
    for (int how = 0; how <= 2; how++) {
      HornBraider x = of("size 1 2;bobbin 2;bobbin 6;");
      if (how > 0) {
        x.stick(0, how);
      }
      yes(18, "step(100), two can be", x, x.step(100), 2);
      no(18, "step(1), they meet", x, x.step(1), 6);
      yes(18, "bobbin(0,0)", x, x.bobbin(0, 0), 0);
      yes(18, "bobbin(1,0)", x, x.bobbin(1, 0), 4);
      HornBraider y = of("size 2 1;bobbin 0;bobbin 6;");
      if (how > 0) {
        y.stick(0, how);
      }
      // 0 to 1, 2; 6 to 5, 4
      yes(18, "step(100), one can be", y, y.step(100), 1);
      no(18, "step(1), they meet", y, y.step(1), 6);
    }
    HornBraider z = of("size 1 1;bobbin 0;bobbin 1;bobbin 2;bobbin 3;");
    yes(18, "step(100) of a full wheel", z, z.step(100), 100);
    // the one goes over as the other one is on its way there
    HornBraider w = of("size 1 2;switch 0 1;bobbin 0;bobbin 7;");
    yes(18, "step(1), into a slot that is left", w, w.step(1), 1);
    yes(18, "bobbin(0,0)", w, w.bobbin(0, 0), 7);
    yes(18, "bobbin(1,0)", w, w.bobbin(1, 0), 6);
  }

  /** A WORD of 300 can be, one of 301 can't. */
  private static void stepFull() {
    // four and two on wheels that never meet: 4, 3, 4, 3, .. letters; 42 times 7 and 4 are 298
    HornBraider x = of("size 2 2;bobbin 0;bobbin 1;bobbin 2;bobbin 3;bobbin 12;bobbin 14;");
    yes(18, "step(85)", x, x.step(85), 85);
    yes(18, "many(6)", x, x.many(6), 298);
    no(18, "step(1), 301", x, x.step(1), 3);
    no(18, "step(100), 301", x, x.step(100), 3);
    no(18, "step(0), 1 ahead of 3", x, x.step(0), 1);
    yes(18, "many(5), as it was", x, x.many(5), 85);
    yes(18, "many(6), as it was", x, x.many(6), 298);
    x.reset();
    yes(18, "step(100), as long as they can be", x, x.step(100), 85);
    // four and four: 6 letters each step
    HornBraider y = of("size 2 2;bobbin 0;bobbin 1;bobbin 2;bobbin 3;bobbin 12;bobbin 13;bobbin 14;bobbin 15;");
    yes(18, "step(50)", y, y.step(50), 50);
    yes(18, "many(6), 300 can be", y, y.many(6), 300);
    yes(33, "letter(299)", y, y.letter(299), y.letter(5));
    no(33, "letter(300)", y, y.letter(300), 5);
    no(18, "step(1), 306", y, y.step(1), 3);
    y.cut();
    yes(18, "step(100) behind cut()", y, y.step(100), 50);
    yes(18, "many(5)", y, y.many(5), 100);
    // a step without letters can be done though the word is full
    HornBraider z = of("size 1 1;bobbin 0;bobbin 2;");
    yes(18, "step(1), a letter", z, z.step(1), 1);
    z.cut();
    for (int i = 0; i < 6; i++) {
      yes(18, "step(100)", z, z.step(100), 100);
    }
    yes(18, "many(6), full", z, z.many(6), 300);
    yes(18, "many(5)", z, z.many(5), 601);
    yes(18, "step(2), only one has no letter", z, z.step(2), 1);
    no(18, "step(2), a letter too many", z, z.step(2), 3);
  }

  private static void resetAndCut() {
    HornBraider x = of("size 1 1;bobbin 0;bobbin 2;place 0 3;");
    yes(19, "reset() at T 0", x, x.reset(), 0);
    yes(20, "cut() of the empty word", x, x.cut(), 0);
    x.seen(0, 4, 0);
    x.step(5);
    yes(20, "cut() of three letters", x, x.cut(), 3);
    yes(20, "T stays", x, x.many(5), 5);
    yes(20, "places stay", x, x.at(1), 0);
    x.step(2);
    yes(20, "the word since it was cut", x, x.many(6), 1);
    yes(19, "reset()", x, x.reset(), 7);
    yes(19, "T", x, x.many(5), 0);
    yes(19, "the word", x, x.many(6), 0);
    yes(19, "at(0)", x, x.at(0), 0);
    yes(19, "at(2)", x, x.at(2), 1);
    yes(19, "bobbin(0,4)", x, x.bobbin(0, 4), 0);
    yes(19, "what is wished stays", x, x.bobbin(0, 5), 3);
    yes(19, "what was seen stays", x, x.many(10), 1);
    yes(19, "reset() again", x, x.reset(), 0);
    x.step(5);
    yes(20, "the word since the start again", x, x.many(6), 3);
    for (int i = 0; i < 6; i++) {
      x.step(100);
    }
    yes(20, "cut() of a full word", x, x.cut(), 300);
  }

  /** 31 of four bits, 24 stuck: 883 bytes with none free. */
  private static HornBraider printed883() {
    HornBraider x = of("size 4 5;");
    for (int s = 0; s < 31; s++) {
      x.program(s, 8, 4);
    }
    for (int s = 0; s < 24; s++) {
      x.stick(s, 1);
    }
    return x;
  }

  private static void printEdges() {
    HornBraider x = printed883();
    yes(21, "print()", x, x.print(), 883);
    x.program(0, 0, 2);
    x.free(0, true);
    x.free(1, true);
    x.free(10, true);
    // 4 less, then 7, 7 and 8 more
    no(21, "print() of 901", x, x.print(), 3);
    yes(21, "out(882), as it was", x, x.out(882), ';');
    no(21, "out(883), as it was", x, x.out(883), 5);
    x.free(10, false);
    x.free(2, true);
    yes(21, "print() of 900", x, x.print(), 900);
    yes(22, "out(899)", x, x.out(899), ';');
    yes(22, "out(898)", x, x.out(898), '2');
    no(22, "out(900)", x, x.out(900), 5);
    HornBraider y = of("size 1 2;");
    yes(21, "print() of nothing but a size", y, y.print(), 9);
    no(21, "out(9)", y, y.out(9), 5);
    y.program(0, 1, 1);
    yes(21, "print() with one bit 1", y, y.print(), 20);
    same(21, "its text", outText(y, 20), "size 1 2;switch 0 1;");
    y.program(0, 0, 4);
    yes(21, "print() with four bits 0", y, y.print(), 26);
    y.program(0, 0, 1);
    yes(21, "print() with one bit 0", y, y.print(), 9);
    no(21, "out(9), it is shorter now", y, y.out(9), 5);
    y.put(7);
    y.wish(0, 0);
    y.step(3);
    yes(21, "print() tells starts", y, y.print(), 28);
    same(21, "its text", outText(y, 28), "size 1 2;bobbin 7;place 0 0;");
    y.stick(0, 1);
    y.free(0, true);
    yes(21, "print() with stuck, free", y, y.print(), 48);
    same(21, "its text", outText(y, 48), "size 1 2;bobbin 7;stuck 0 shut;free 0;place 0 0;");
    HornBraider z = of("size 4 5;switch 30 1 0;bobbin 79;stuck 30 open;free 30;place 0 78;word 7 - 7 1 - 1;");
    yes(21, "print() with numbers of two digits", z, z.print(), 83);
    same(21, "its text", outText(z, 83),
        "size 4 5;switch 30 1 0;bobbin 79;stuck 30 open;free 30;place 0 78;word 7 - 7 1 - 1;");
    yes(21, "print() with an empty word", z = of("size 1 1;word;"), z.print(), 14);
    same(21, "its text", outText(z, 14), "size 1 1;word;");
  }

  private static void outEdges() {
    HornBraider x = new HornBraider();
    no(22, "out(0) ahead of any print()", x, x.out(0), 5);
    no(22, "out(-1)", x, x.out(-1), 1);
    no(22, "out(MIN)", x, x.out(MIN), 1);
    no(22, "out(MAX)", x, x.out(MAX), 5);
    yes(22, "print()", x, x.print(), 9);
    yes(22, "out(0)", x, x.out(0), 's');
    yes(22, "out(8)", x, x.out(8), ';');
    no(22, "out(9)", x, x.out(9), 5);
    no(22, "out(-1)", x, x.out(-1), 1);
    no(22, "out(900)", x, x.out(900), 5);
    no(22, "out(MAX)", x, x.out(MAX), 5);
    x.put(0);
    no(22, "out(9), what is told later is not in it", x, x.out(9), 5);
  }

  // ---- maps, rounds, tracks: promises 23 to 32

  private static void mapEdges() {
    HornBraider x = of("size 4 5;");
    for (int t : new int[] {MIN, -1, 1000001, MAX}) {
      no(23, "map(" + t + ",0)", x, x.map(t, 0), 1);
      no(23, "map(" + t + ",80), 1 ahead of 2", x, x.map(t, 80), 1);
    }
    for (int slot : new int[] {MIN, -1, 80, MAX}) {
      no(23, "map(0," + slot + ")", x, x.map(0, slot), 2);
      no(23, "map(1000000," + slot + ")", x, x.map(1000000, slot), 2);
    }
    // wheels whose row and column together are even turn with the clock
    for (int slot = 0; slot < 80; slot++) {
      int wheel = slot / 4;
      boolean clock = (wheel / 5 + wheel % 5) % 2 == 0;
      yes(23, "map(0," + slot + ")", x, x.map(0, slot), 4 * wheel + (slot + (clock ? 1 : 3)) % 4);
    }
    // 1000000 by 3 leaves 1, by 4 nothing
    HornBraider y = of("size 1 3;switch 0 0 1 0;switch 1 1 0 0 0;");
    yes(23, "map(1000000,0), open", y, y.map(1000000, 0), 7);
    yes(23, "map(999999,0), shut", y, y.map(999999, 0), 1);
    yes(23, "map(1000000,6), open", y, y.map(1000000, 6), 11);
    yes(23, "map(999999,6), shut", y, y.map(999999, 6), 5);
    y.step(7);
    yes(23, "map(0,0), whatever T is", y, y.map(0, 0), 1);
  }

  private static void rideEdges() {
    HornBraider x = of("size 4 5;");
    for (int t : new int[] {MIN, -1, 1000001, MAX}) {
      no(24, "ride(0," + t + ",0)", x, x.ride(0, t, 0), 1);
      no(24, "ride(80," + t + ",0), 1 ahead of 2", x, x.ride(80, t, 0), 1);
    }
    for (int n : new int[] {MIN, -1, 10001, MAX}) {
      no(24, "ride(0,0," + n + ")", x, x.ride(0, 0, n), 1);
      no(24, "ride(-1,0," + n + "), 1 ahead of 2", x, x.ride(-1, 0, n), 1);
    }
    for (int slot : new int[] {MIN, -1, 80, MAX}) {
      no(24, "ride(" + slot + ",0,0)", x, x.ride(slot, 0, 0), 2);
    }
    for (int slot : new int[] {0, 5, 79}) {
      yes(24, "ride(" + slot + ",0,0)", x, x.ride(slot, 0, 0), slot);
      yes(24, "ride(" + slot + ",1000000,0)", x, x.ride(slot, 1000000, 0), slot);
      yes(24, "ride(" + slot + ",1000000,10000)", x, x.ride(slot, 1000000, 10000), slot);
      yes(24, "ride(" + slot + ",0,1) is map(0)", x, x.ride(slot, 0, 1), x.map(0, slot));
    }
    yes(24, "ride(0,0,9999)", x, x.ride(0, 0, 9999), 3);
    yes(24, "ride(4,0,9999)", x, x.ride(4, 0, 9999), 5);
    // two BOBBINS that MEET don't matter: as MAPS go
    HornBraider y = of("size 1 2;switch 0 1 0 0 0;bobbin 0;bobbin 4;");
    yes(24, "ride(0,0,1)", y, y.ride(0, 0, 1), 7);
    yes(24, "ride(0,1,1)", y, y.ride(0, 1, 1), 1);
    yes(24, "ride(0,4,1)", y, y.ride(0, 4, 1), 7);
    // 0: 7, 6, 5, 4; then 1, 2, 3, 0
    yes(24, "ride(0,0,4)", y, y.ride(0, 0, 4), 4);
    yes(24, "ride(0,0,8)", y, y.ride(0, 0, 8), 0);
    yes(24, "ride(0,999996,8)", y, y.ride(0, 999996, 8), 0);
    yes(24, "ride(0,1,9), behind 3 it is open", y, y.ride(0, 1, 9), 1);
  }

  private static void roundEdges() {
    HornBraider x = new HornBraider();
    for (int slot : new int[] {MIN, -1, 4, MAX}) {
      no(25, "round(" + slot + ")", x, x.round(slot), 2);
    }
    for (int slot = 0; slot < 4; slot++) {
      yes(25, "round(" + slot + ") of one wheel", x, x.round(slot), (slot + 1) % 4);
    }
    HornBraider y = of("size 4 5;switch 0 0 0 0;switch 1 0 0 0 0;");
    yes(25, "round(79) of twelve steps", y, y.round(79), 79);
    no(25, "round(80)", y, y.round(80), 2);
    // 7, 6, 5, 4; over again at 4: 1, 2, 3, 0; over at 8: 7, 6, 5, 4
    HornBraider z = of("size 1 3;switch 0 1 0 0 0;switch 1 0 0 0;");
    yes(25, "round(0) of period 12", z, z.round(0), z.ride(0, 0, 12));
    yes(25, "round(0) of period 12, by hand", z, z.round(0), 4);
    z.step(1);
    yes(25, "round(0) from step 0 on, whatever T is", z, z.round(0), 4);
  }

  private static void trackEdges() {
    HornBraider x = of("size 1 2;bobbin 4;");
    for (int what : new int[] {MIN, -1, 3, MAX}) {
      no(26, "track(0," + what + ")", x, x.track(0, what), 1);
      no(26, "track(8," + what + "), 1 ahead of 2", x, x.track(8, what), 1);
      no(27, "tracks(" + what + ")", x, x.tracks(what), 1);
    }
    for (int slot : new int[] {MIN, -1, 8, MAX}) {
      no(26, "track(" + slot + ",0)", x, x.track(slot, 0), 2);
    }
    for (int n : new int[] {MIN, -1, 0}) {
      no(28, "ofLength(" + n + ")", x, x.ofLength(n), 1);
    }
    yes(28, "ofLength(1), none", x, x.ofLength(1), 0);
    yes(28, "ofLength(4)", x, x.ofLength(4), 2);
    yes(28, "ofLength(MAX)", x, x.ofLength(MAX), 0);
    yes(26, "track(3,2), none", x, x.track(3, 2), 0);
    yes(26, "track(7,2), one", x, x.track(7, 2), 1);
    x.step(1);
    x.program(0, 0, 4);
    yes(26, "track(4,2), its start", x, x.track(4, 2), 1);
    yes(26, "track(7,2), it is there, but its start is not", x, x.track(7, 2), 0);
    yes(26, "track(7,0) of one", x, x.track(7, 0), 1);
    yes(26, "track(7,1) of one", x, x.track(7, 1), 7);
    // all switches of 4 by 5 shut: twenty tracks of four
    HornBraider y = of("size 4 5;");
    yes(27, "tracks(0)", y, y.tracks(0), 20);
    yes(27, "tracks(1)", y, y.tracks(1), 4);
    yes(27, "tracks(2)", y, y.tracks(2), 4);
    yes(26, "track(79,1)", y, y.track(79, 1), 76);
    yes(28, "ofLength(4)", y, y.ofLength(4), 20);
    y.program(0, 0, 4);
    yes(27, "tracks(0), all at once", y, y.tracks(0), 80);
    yes(27, "tracks(2), behind one round", y, y.tracks(2), 1);
    yes(28, "ofLength(1)", y, y.ofLength(1), 80);
    // one of 8 and a shut one of 4 with period 1, one of 3 bits: rounds of 3 steps
    HornBraider z = of("size 1 2;switch 0 1;bobbin 0;bobbin 5;");
    yes(26, "track(0,0) of both wheels", z, z.track(0, 0), 8);
    yes(26, "track(6,1)", z, z.track(6, 1), 0);
    yes(26, "track(6,2), two", z, z.track(6, 2), 2);
    yes(27, "tracks(2)", z, z.tracks(2), 8);
    yes(28, "ofLength(8)", z, z.ofLength(8), 1);
  }

  /** ROUNDS begin with STEP 0, and their STEPS come one behind the other. */
  private static void phases() {
    HornBraider x = of("size 1 2;switch 0 1 1 0;");
    // 7, 6, 5, 4, then over at step 4
    yes(24, "ride(0,0,5)", x, x.ride(0, 0, 5), 1);
    yes(24, "ride(0,1,5)", x, x.ride(0, 1, 5), 7);
    yes(24, "ride(0,2,5), shut first", x, x.ride(0, 2, 5), 7);
    int[] round = {5, 0, 1, 6, 3, 2, 7, 4};
    int[] least = {0, 0, 0, 3, 3, 0, 3, 3};
    for (int slot = 0; slot < 8; slot++) {
      yes(25, "round(" + slot + ") of 1 1 0", x, x.round(slot), round[slot]);
      yes(26, "track(" + slot + ",0) of 1 1 0", x, x.track(slot, 0), 4);
      yes(26, "track(" + slot + ",1) of 1 1 0", x, x.track(slot, 1), least[slot]);
    }
    // of 1 0: 0, 6, 4, 2 are one track, 1, 3 and 5, 7 two others; of 0 1 it is 0, 2 and 1, 3, 7, 5 and 4, 6
    HornBraider y = of("size 1 2;switch 0 1 0;");
    int[] lengths = {4, 2, 4, 2, 4, 2, 4, 2};
    int[] leasts = {0, 1, 0, 1, 0, 5, 0, 5};
    for (int i = 0; i < 2; i++) {
      for (int slot = 0; slot < 8; slot++) {
        yes(26, "track(" + slot + ",0) of 1 0", y, y.track(slot, 0), lengths[slot]);
        yes(26, "track(" + slot + ",1) of 1 0", y, y.track(slot, 1), leasts[slot]);
      }
      yes(27, "tracks(0) of 1 0", y, y.tracks(0), 3);
      yes(28, "ofLength(2) of 1 0", y, y.ofLength(2), 2);
      // whatever T is
      y.step(1);
    }
    // tracks of 2, 6 and 4: all are home behind 12 rounds
    HornBraider z = of("size 1 3;switch 0 0 1;switch 1 1;");
    yes(27, "tracks(0) of 2, 6, 4", z, z.tracks(0), 3);
    yes(27, "tracks(1) of 2, 6, 4", z, z.tracks(1), 6);
    yes(27, "tracks(2) of 2, 6, 4", z, z.tracks(2), 12);
    for (int n = 1; n <= 8; n++) {
      yes(28, "ofLength(" + n + ") of 2, 6, 4", z, z.ofLength(n), n == 2 || n == 4 || n == 6 ? 1 : 0);
    }
    // 0 over to 7, 6, then to 5; 8 to 9, 10, then to 11; 1 and 9 come there with the switch shut in between
    HornBraider w = of("size 1 3;switch 0 1 0;");
    int[] firsts = {2, NONE, 4, NONE};
    for (int slot = 0; slot < 4; slot++) {
      ask(29, "meets(" + slot + ") across a wheel", w, w.meets(slot, 8 + slot, 0), firsts[slot], firsts[slot] == NONE ? 5 : 0);
    }
    w.program(0, 0, 1);
    for (int slot = 0; slot < 4; slot++) {
      no(29, "meets(" + slot + ") across a wheel, shut", w, w.meets(slot, 8 + slot, 0), 5);
    }
  }

  private static void meetsEdges() {
    HornBraider x = of("size 1 2;");
    for (int what : new int[] {MIN, -1, 2, MAX}) {
      no(29, "meets(0,4," + what + ")", x, x.meets(0, 4, what), 1);
      no(29, "meets(0,8," + what + "), 1 ahead of 2", x, x.meets(0, 8, what), 1);
      no(29, "meets(0,0," + what + "), 1 ahead of 4", x, x.meets(0, 0, what), 1);
    }
    for (int slot : new int[] {MIN, -1, 8, MAX}) {
      no(29, "meets(" + slot + ",0,0)", x, x.meets(slot, 0, 0), 2);
      no(29, "meets(0," + slot + ",1)", x, x.meets(0, slot, 1), 2);
      no(29, "meets(" + slot + "," + slot + ",0), 2 ahead of 4", x, x.meets(slot, slot, 0), 2);
    }
    for (int slot = 0; slot < 8; slot++) {
      no(29, "meets(" + slot + "," + slot + ",0)", x, x.meets(slot, slot, 0), 4);
    }
    for (int what = 0; what <= 1; what++) {
      no(29, "meets(1,7," + what + "), they face", x, x.meets(1, 7, what), 4);
      no(29, "meets(7,1," + what + "), they face", x, x.meets(7, 1, what), 4);
      no(29, "meets(0,1," + what + "), never", x, x.meets(0, 1, what), 5);
      no(29, "meets(0,5," + what + "), never", x, x.meets(0, 5, what), 5);
    }
    // 0 and 4 at once; 3 and 5, 2 and 6 later; at the latest 1 and 7 would, which face
    int[][] pairs = {{0, 4, 0}, {3, 5, 1}, {2, 6, 2}};
    for (int[] pair : pairs) {
      yes(29, "meets(" + pair[0] + "," + pair[1] + ",0)", x, x.meets(pair[0], pair[1], 0), pair[2]);
      yes(29, "meets(" + pair[1] + "," + pair[0] + ",0)", x, x.meets(pair[1], pair[0], 0), pair[2]);
      yes(29, "meets(" + pair[0] + "," + pair[1] + ",1)", x, x.meets(pair[0], pair[1], 1), 0);
    }
    no(29, "meets(0,1,0) of one wheel", x = new HornBraider(), x.meets(0, 1, 0), 5);
    // the last switch of 4 by 5: 57 turns to 58 with the clock, 77 to 76 against it
    HornBraider y = of("size 4 5;");
    yes(29, "meets(57,77,1)", y, y.meets(57, 77, 1), 30);
    yes(29, "meets(57,77,0)", y, y.meets(57, 77, 0), 0);
    meetsOfAll();
    meetsBehindRounds();
  }

  /** All pairs of 4 by 5, all shut: those turn together to a switch that are as far behind it. */
  private static void meetsOfAll() {
    HornBraider shut = of("size 4 5;");
    int[] from = new int[80];
    for (int slot = 0; slot < 80; slot++) {
      from[shut.map(0, slot)] = slot;
    }
    int[][] first = new int[80][80];
    for (int[] row : first) {
      java.util.Arrays.fill(row, NONE);
    }
    for (int s = 0; s < 31; s++) {
      int one = shut.gate(s, 4);
      int other = shut.gate(s, 5);
      for (int t = 0; t < 3; t++) {
        one = from[one];
        other = from[other];
        first[one][other] = t;
        first[other][one] = t;
      }
    }
    for (int slot = 0; slot < 80; slot++) {
      HornBraider x = of("size 4 5;");
      for (int other = 0; other < 80; other++) {
        int due = first[slot][other];
        boolean already = slot == other || x.faces(slot) == other;
        ask(29, "meets(" + slot + "," + other + ",0)", x, x.meets(slot, other, 0), due, already ? 4 : due == NONE ? 5 : 0);
      }
    }
  }

  /** The first meeting may come behind many rounds: it is held against steps of two BOBBINS. */
  private static void meetsBehindRounds() {
    String[] texts = {"size 2 3;switch 0 1 0 1;switch 1 1;switch 2 0 0 1;switch 6 1 1 1 0;", "size 1 3;switch 0 1 1 0;switch 1 0 1 1 0;",
      "size 2 2;switch 0 0 1 1 0;switch 2 1 0 0;"};
    int never = 0;
    int latest = 0;
    for (String text : texts) {
      HornBraider x = of(text);
      int slots = x.many(3);
      boolean[][] foes = new boolean[slots][slots];
      for (int slot = 0; slot < slots; slot++) {
        for (int other = 0; other < slot; other++) {
          if (x.faces(slot) != other) {
            int due = stepsUntilMeeting(text, slot, other);
            HornBraider y = of(text);
            ask(29, "meets(" + slot + "," + other + ",0) of " + text, y, y.meets(slot, other, 0), due, due == NONE ? 5 : 0);
            ask(29, "meets(" + other + "," + slot + ",0) of " + text, y, y.meets(other, slot, 0), due, due == NONE ? 5 : 0);
            crashCountsDown(text, slot, other, due);
            never += due == NONE ? 1 : 0;
            latest = Math.max(latest, due);
          }
          foes[slot][other] = x.faces(slot) == other || stepsUntilMeeting(text, slot, other) != NONE;
        }
        x = of(text);
      }
      laidOf(text, foes);
    }
    plain(29, "some never meet, some behind a round", never > 0 && latest > 12 ? 1 : 0, 1);
  }

  /** crash() at each T tells what is left of the steps until they meet. */
  private static void crashCountsDown(String text, int slot, int other, int meeting) {
    HornBraider x = of(text + "bobbin " + slot + ";bobbin " + other + ";");
    for (int t = 0; t <= 12 && (meeting == NONE || t <= meeting); t++) {
      ask(30, "crash(0) at T " + t + " of " + slot + " and " + other + " in " + text, x, x.crash(0),
          meeting == NONE ? NONE : meeting - t, meeting == NONE ? 5 : 0);
      x.step(1);
    }
  }

  private static int stepsUntilMeeting(String text, int slot, int other) {
    HornBraider x = of(text + "bobbin " + slot + ";bobbin " + other + ";");
    int done = 0;
    for (int i = 0; i < 30; i++) {
      int did = x.step(100);
      x.cut();
      if (did == NONE) {
        return done;
      }
      done += did;
    }
    return NONE;
  }

  private static void laidOf(String text, boolean[][] foes) {
    HornBraider x = of(text);
    int[] laid = new int[8];
    int count = 0;
    for (int slot = 0; slot < foes.length && count < 8; slot++) {
      boolean fits = true;
      for (int i = 0; i < count; i++) {
        fits = fits && !foes[slot][laid[i]];
      }
      if (fits) {
        yes(32, "laid(" + count + ") of " + text, x, x.laid(count), slot);
        laid[count] = slot;
        count++;
      }
    }
    no(32, "laid(" + count + ") of " + text, x, x.laid(count), 5);
  }

  private static void crashEdges() {
    HornBraider x = of("size 1 2;bobbin 4;bobbin 0;");
    for (int what : new int[] {MIN, -1, 4, MAX}) {
      no(30, "crash(" + what + ")", x, x.crash(what), 1);
    }
    int[] next = {0, 0, 0, 1};
    for (int what = 0; what <= 3; what++) {
      yes(30, "crash(" + what + "), the next one", x, x.crash(what), next[what]);
    }
    HornBraider y = new HornBraider();
    for (int what = 0; what <= 3; what++) {
      no(30, "crash(" + what + "), no bobbins", y, y.crash(what), 5);
    }
    no(30, "crash(4), no bobbins: 1 ahead of 5", y, y.crash(4), 1);
    y.put(0);
    no(30, "crash(0), one", y, y.crash(0), 5);
    y.put(1);
    no(30, "crash(0), two that never meet", y, y.crash(0), 5);
    // 4 and 0 meet at switch 0, 14 and 10 at switch 1, at once: the least one is told
    HornBraider z = of("size 2 2;bobbin 14;bobbin 4;bobbin 10;bobbin 0;");
    int[] both = {0, 0, 1, 3};
    // 14 and 10 at once, 6 and 2 two steps later: the first one is told
    HornBraider w = of("size 2 2;bobbin 14;bobbin 10;bobbin 6;bobbin 2;");
    int[] first = {0, 1, 0, 1};
    for (int what = 0; what <= 3; what++) {
      yes(30, "crash(" + what + ") of two meetings at once", z, z.crash(what), both[what]);
      yes(30, "crash(" + what + ") of an earlier one", w, w.crash(what), first[what]);
    }
    yes(30, "crash(0) counts from now on", x = of("size 1 2;bobbin 2;bobbin 6;"), x.crash(0), 2);
    x.step(1);
    yes(30, "crash(0) behind one step", x, x.crash(0), 1);
    x.step(1);
    yes(30, "crash(0) behind two", x, x.crash(0), 0);
    no(30, "step(1)", x, x.step(1), 6);
    yes(30, "crash(0) behind a step that could not be", x, x.crash(0), 0);
    // 3 to 0, over to 7, 6, then to 5 as the other one comes to 11; from 0 and 8 at an even step it would not
    HornBraider v = of("size 1 3;switch 0 0 1;bobbin 3;bobbin 11;");
    for (int t = 0; t <= 3; t++) {
      yes(30, "crash(0) at T " + t, v, v.crash(0), 3 - t);
      yes(30, "crash(1) at T " + t, v, v.crash(1), 1);
      v.step(1);
    }
    HornBraider u = of("size 1 3;switch 0 1 0;bobbin 3;bobbin 11;");
    for (int t = 0; t <= 3; t++) {
      no(30, "crash(0), never, at T " + t, u, u.crash(0), 5);
      u.step(1);
    }
  }

  private static void repeatEdges() {
    HornBraider x = of("size 1 2;switch 0 1 0 0;");
    no(31, "repeat(), no bobbins", x, x.repeat(), 5);
    x.put(0);
    yes(31, "repeat(), 8 rounds of 3", x, x.repeat(), 24);
    x.take(0);
    no(31, "repeat(), none is left", x, x.repeat(), 5);
    HornBraider y = new HornBraider();
    y.put(0);
    yes(31, "repeat() of one wheel", y, y.repeat(), 4);
    y.step(3);
    yes(31, "repeat() behind three", y, y.repeat(), 4);
    // two that meet at once: as maps go
    HornBraider z = of("size 1 2;bobbin 0;bobbin 4;");
    yes(31, "repeat() of two that meet", z, z.repeat(), 4);
    z.program(0, 0, 4);
    yes(31, "repeat(), behind one round of 4", z, z.repeat(), 4);
    z.program(0, 0, 3);
    yes(31, "repeat(), behind four rounds of 3", z, z.repeat(), 12);
    // 0 is home behind four rounds of 2, and so is each slot to which it comes
    HornBraider v = of("size 1 2;switch 0 1 0;bobbin 0;");
    for (int t = 0; t < 8; t++) {
      yes(31, "repeat() at T " + t, v, v.repeat(), 8);
      v.step(1);
    }
    // 1 is home behind two rounds
    HornBraider u = of("size 1 2;switch 0 1 0;bobbin 1;");
    for (int t = 0; t < 8; t++) {
      yes(31, "repeat() at T " + t, u, u.repeat(), 4);
      u.step(1);
    }
    // one comes round in 4, the other in 8
    HornBraider w = of("size 1 3;switch 1 1;bobbin 0;bobbin 8;");
    yes(31, "repeat() of 4 and 8", w, w.repeat(), 8);
    w.take(1);
    yes(31, "repeat() of 4", w, w.repeat(), 4);
  }

  private static void laidEdges() {
    HornBraider x = new HornBraider();
    no(32, "laid(-1)", x, x.laid(-1), 1);
    no(32, "laid(MIN)", x, x.laid(MIN), 1);
    no(32, "laid(MAX)", x, x.laid(MAX), 5);
    yes(32, "laid(3) of one wheel", x, x.laid(3), 3);
    no(32, "laid(4) of one wheel", x, x.laid(4), 5);
    // wheels 0 and 2 of a row of five, then wheel 4, but eight are enough
    HornBraider y = of("size 1 5;");
    int[] due = {0, 1, 2, 3, 8, 9, 10, 11};
    for (int k = 0; k < due.length; k++) {
      yes(32, "laid(" + k + ") of five wheels", y, y.laid(k), due[k]);
    }
    no(32, "laid(8), of at most 8", y, y.laid(8), 5);
    y.put(0);
    y.step(1);
    yes(32, "laid(0), whatever bobbins there are", y, y.laid(0), 0);
    // on one track of 8: those that are laid never meet, and no one more can be laid
    HornBraider z = of("size 1 2;switch 0 1;");
    int count = 0;
    for (int k = 0; k < 8 && z.laid(k) != NONE; k++) {
      count++;
      for (int j = 0; j < k; j++) {
        no(32, "meets() of two that are laid", z, z.meets(z.laid(j), z.laid(k), 0), 5);
      }
    }
    no(32, "laid() behind the last", z, z.laid(count), 5);
  }

  // ---- the braid: promises 33 to 39

  private static void letterEdges() {
    HornBraider x = of("size 1 1;bobbin 0;bobbin 2;");
    no(33, "letter(0) of the empty word", x, x.letter(0), 5);
    no(33, "letter(-1)", x, x.letter(-1), 1);
    no(33, "letter(MIN)", x, x.letter(MIN), 1);
    x.step(1);
    yes(33, "letter(0), -1 that is no refusal", x, x.letter(0), -1);
    no(33, "letter(1)", x, x.letter(1), 5);
    no(33, "letter(MAX)", x, x.letter(MAX), 5);
    no(33, "letter(-1)", x, x.letter(-1), 1);
    // eight have letters up to 7: four on wheel 0 are at 1 to 4, four on wheel 3 at 5 to 8
    HornBraider y = of("size 2 2;bobbin 0;bobbin 1;bobbin 2;bobbin 3;bobbin 12;bobbin 13;bobbin 14;bobbin 15;");
    y.step(1);
    int[] due = {-2, -1, -3, -6, -5, -7};
    for (int k = 0; k < due.length; k++) {
      yes(33, "letter(" + k + ") of eight", y, y.letter(k), due[k]);
    }
    no(33, "letter(6) of eight", y, y.letter(6), 5);
    HornBraider z = of("size 1 1;bobbin 0;");
    z.step(100);
    yes(33, "one makes no letters", z, z.many(6), 0);
  }

  private static void wishedEdges() {
    HornBraider x = of("size 1 1;");
    no(34, "wished(0), none is", x, x.wished(0), 5);
    no(34, "wished(-1), none is", x, x.wished(-1), 1);
    HornBraider y = of("size 1 1;word;");
    no(34, "wished(0) of an empty one", y, y.wished(0), 5);
    HornBraider z = of("size 1 1;word - 1" + " 2".repeat(58) + " - 7;");
    yes(34, "wished(0), -1 that is no refusal", z, z.wished(0), -1);
    yes(34, "wished(59)", z, z.wished(59), -7);
    no(34, "wished(60)", z, z.wished(60), 5);
    no(34, "wished(MAX)", z, z.wished(MAX), 5);
    no(34, "wished(-1)", z, z.wished(-1), 1);
    no(34, "wished(MIN)", z, z.wished(MIN), 1);
    yes(34, "a shorter one", z, loadText(z, "size 1 1;word 3;"), 4);
    no(34, "wished(1) of the shorter one", z, z.wished(1), 5);
  }

  private static void braidEdges() {
    HornBraider x = of("size 1 1;bobbin 0;bobbin 2;");
    for (int what : new int[] {MIN, -1, 7, MAX}) {
      no(35, "braid(" + what + ")", x, x.braid(what), 1);
    }
    no(35, "braid(3), none is wished", x, x.braid(3), 5);
    no(35, "braid(6), none is wished", x, x.braid(6), 5);
    int[] empty = {0, 2, 1, NONE, 1, 1};
    for (int what : new int[] {0, 1, 2, 4, 5}) {
      yes(35, "braid(" + what + ") of the empty word", x, x.braid(what), empty[what]);
    }
    x.step(1);
    yes(35, "braid(0), -1 that is no refusal", x, x.braid(0), -1);
    yes(35, "braid(1) of one change", x, x.braid(1), 1);
    yes(35, "braid(2)", x, x.braid(2), 0);
    yes(35, "braid(4)", x, x.braid(4), 0);
    yes(35, "braid(5)", x, x.braid(5), 1);
    HornBraider y = of("size 1 1;word;");
    int[] none = {0, 0, 1, 1, 1, 1, 1};
    for (int what = 0; what <= 6; what++) {
      yes(35, "braid(" + what + ") of no bobbins", y, y.braid(what), none[what]);
    }
    HornBraider z = of("size 2 2;bobbin 0;bobbin 1;bobbin 2;bobbin 3;bobbin 12;bobbin 13;bobbin 14;bobbin 15;word;");
    yes(35, "braid(1) of eight and no letter", z, z.braid(1), 8);
    z.step(50);
    yes(35, "braid(0) of 300 letters", z, z.braid(0), -300);
    // 50 quarters of both wheels are two quarters: those opposite change
    yes(35, "braid(1) of 300 letters", z, z.braid(1), 4);
  }

  /** Whether a wished WORD is ONE BRAID with the empty one, of so many BOBBINS. */
  private static void wishedIsEmpty(int bobbins, String word, int due) {
    int[] slots = {0, 1, 2, 3, 12, 13, 14, 15};
    StringBuilder text = new StringBuilder("size 2 2;");
    for (int b = 0; b < bobbins; b++) {
      text.append("bobbin ").append(slots[b]).append(";");
    }
    HornBraider x = of(text + "word" + word + ";");
    yes(35, "braid(3) of " + bobbins + " with" + word, x, x.braid(3), due);
    yes(39, "times(4) of " + bobbins + " with" + word, x, x.times(4), due);
  }

  /** Each of the rules by which one WORD becomes another one, and what is none of them. */
  private static void braidRules() {
    wishedIsEmpty(2, "", 1);
    wishedIsEmpty(2, " 1 - 1", 1);
    wishedIsEmpty(2, " - 1 1", 1);
    wishedIsEmpty(2, " 1", 0);
    wishedIsEmpty(2, " 1 1", 0);
    wishedIsEmpty(2, " 1 1 - 1 1 - 1 - 1", 1);
    wishedIsEmpty(2, " 1".repeat(30) + " - 1".repeat(30), 1);
    wishedIsEmpty(2, " 1".repeat(31) + " - 1".repeat(29), 0);
    // 2 or more apart
    wishedIsEmpty(4, " 1 3 - 1 - 3", 1);
    wishedIsEmpty(4, " 1 - 3 - 1 3", 1);
    wishedIsEmpty(8, " 1 7 - 1 - 7", 1);
    wishedIsEmpty(8, " 5 7 - 5 - 7", 1);
    wishedIsEmpty(8, " 6 7 - 6 - 7", 0);
    wishedIsEmpty(3, " 1 2 - 1 - 2", 0);
    // three in a row, all above 0 or all below
    wishedIsEmpty(3, " 1 2 1 - 2 - 1 - 2", 1);
    wishedIsEmpty(3, " - 1 - 2 - 1 2 1 2", 1);
    wishedIsEmpty(3, " 2 1 2 - 1 - 2 - 1", 1);
    wishedIsEmpty(8, " 6 7 6 - 7 - 6 - 7", 1);
    wishedIsEmpty(8, " 5 7 5 - 7 - 5 - 7", 0);
    wishedIsEmpty(3, " 1 - 2 1 - 2 1 - 2", 0);
    wishedIsEmpty(3, " 1 2 - 1 - 2 - 1 2", 1);
    wishedIsEmpty(3, " 1 2 1 2 1 2", 0);
    wishedIsEmpty(3, " 1 2 1 2 1 2 - 2 - 1 - 2 - 1 - 2 - 1", 1);
    wishedIsEmpty(3, " 1 2 1 2 1 2 - 1 - 2 - 1 - 2 - 1 - 2", 1);
    // a letter that as many don't have
    wishedIsEmpty(2, " 2 - 2", 0);
    wishedIsEmpty(3, " 2 - 2", 1);
    wishedIsEmpty(7, " 7 - 7", 0);
    wishedIsEmpty(8, " 7 - 7", 1);
    wishedIsEmpty(1, "", 1);
    wishedIsEmpty(1, " 1 - 1", 0);
    wishedIsEmpty(0, "", 1);
    wishedIsEmpty(0, " 1 - 1", 0);
    // as deep as 60 letters go: a commutator of commutators is empty in none of its shorter parts
    String a = " 1 1";
    String b = " 2 2";
    String c = a + b + " - 1 - 1" + " - 2 - 2";
    String back = b + a + " - 2 - 2" + " - 1 - 1";
    wishedIsEmpty(3, c, 0);
    wishedIsEmpty(3, c + back, 1);
    wishedIsEmpty(3, c + a + back + " - 1 - 1", 0);
  }

  /** Four quarters of a ROUND with one PROGRAM and another one by turns, so often. */
  private static void turns(HornBraider x, int n, int one, int other) {
    for (int i = 0; i < n; i++) {
      x.program(0, one, 4);
      yes(35, "step(4)", x, x.step(4), 4);
      x.program(0, other, 4);
      yes(35, "step(4)", x, x.step(4), 4);
    }
  }

  /** A long WORD that is undone again: its numbers grow beyond a long, and come back. */
  private static void longUndone() {
    // bits 1 0 1 and 0 1 0 make 2 - 1 2 - 1 2 - 1 of 16 steps; 1 1 1 and 0 1 1 undo it
    HornBraider x = of("size 1 2;bobbin 0;bobbin 3;bobbin 6;word" + " 2 - 1".repeat(3) + ";");
    turns(x, 2, 5, 2);
    yes(35, "braid(3)", x, x.braid(3), 1);
    yes(35, "braid(2)", x, x.braid(2), 0);
    turns(x, 2, 7, 6);
    yes(35, "braid(2), undone", x, x.braid(2), 1);
    yes(35, "braid(3), undone", x, x.braid(3), 0);
    x.reset();
    turns(x, 30, 5, 2);
    yes(35, "braid(2), far away", x, x.braid(2), 0);
    yes(35, "braid(5), far away", x, x.braid(5), 0);
    yes(35, "braid(6), it goes along with its part", x, x.braid(6), 1);
    turns(x, 28, 7, 6);
    yes(35, "braid(3), all but one undone", x, x.braid(3), 1);
    yes(35, "times(2), all but one undone", x, x.times(2), 0);
    yes(35, "braid(2), all but one undone", x, x.braid(2), 0);
    turns(x, 2, 7, 6);
    yes(35, "braid(2), all undone", x, x.braid(2), 1);
    yes(35, "braid(4), all undone", x, x.braid(4), 1);
    yes(35, "braid(5), all undone", x, x.braid(5), 1);
    yes(39, "times(4), all undone", x, x.times(4), 0);
  }

  private static void threadEdges() {
    HornBraider x = of("size 1 1;bobbin 0;bobbin 1;bobbin 2;bobbin 3;");
    for (int place : new int[] {MIN, -1, 0, 5, MAX}) {
      no(36, "ends(" + place + ")", x, x.ends(place), 1);
      no(37, "pair(1," + place + ")", x, x.pair(1, place), 1);
      no(37, "pair(" + place + ",4)", x, x.pair(place, 4), 1);
      no(37, "pair(" + place + "," + place + "), 1 ahead of 4", x, x.pair(place, place), 1);
      no(38, "thread(" + place + ",0)", x, x.thread(place, 0), 1);
    }
    for (int what : new int[] {MIN, -1, 4, MAX}) {
      no(38, "thread(1," + what + ")", x, x.thread(1, what), 1);
    }
    for (int place = 1; place <= 4; place++) {
      yes(36, "ends(" + place + ") of the empty word", x, x.ends(place), place);
      no(37, "pair(" + place + "," + place + ")", x, x.pair(place, place), 4);
      int[] due = {0, 0, place, place};
      for (int what = 0; what <= 3; what++) {
        yes(38, "thread(" + place + "," + what + ") of the empty word", x, x.thread(place, what), due[what]);
      }
    }
    yes(37, "pair(1,4) of the empty word", x, x.pair(1, 4), 0);
    // - 2 - 1 - 3: 1 2 3 4, 1 3 2 4, 3 1 2 4, 3 1 4 2
    x.step(1);
    int[] ends = {2, 4, 1, 3};
    int[][] parts = {{1, 0, 2, 1}, {2, 0, 4, 2}, {2, 2, 3, 1}, {1, 1, 4, 3}};
    for (int place = 1; place <= 4; place++) {
      yes(36, "ends(" + place + ")", x, x.ends(place), ends[place - 1]);
      for (int what = 0; what <= 3; what++) {
        yes(38, "thread(" + place + "," + what + ")", x, x.thread(place, what), parts[place - 1][what]);
      }
    }
    int[][] pairs = {{1, 2, 0}, {1, 3, -1}, {1, 4, 0}, {2, 3, -1}, {2, 4, -1}, {3, 4, 0}};
    for (int[] pair : pairs) {
      yes(37, "pair(" + pair[0] + "," + pair[1] + ")", x, x.pair(pair[0], pair[1]), pair[2]);
      yes(37, "pair(" + pair[1] + "," + pair[0] + ")", x, x.pair(pair[1], pair[0]), pair[2]);
    }
    x.cut();
    yes(36, "ends(1) of the word that was cut", x, x.ends(1), 1);
    HornBraider y = new HornBraider();
    no(36, "ends(1), no bobbins", y, y.ends(1), 1);
    no(37, "pair(1,1), no bobbins", y, y.pair(1, 1), 1);
    no(38, "thread(1,0), no bobbins", y, y.thread(1, 0), 1);
    HornBraider z = of("size 1 1;bobbin 0;");
    yes(36, "ends(1) of one", z, z.ends(1), 1);
    no(36, "ends(2) of one", z, z.ends(2), 1);
    no(37, "pair(1,2) of one", z, z.pair(1, 2), 1);
    no(37, "pair(1,1) of one", z, z.pair(1, 1), 4);
  }

  private static void timesEdges() {
    HornBraider x = of("size 1 1;bobbin 0;bobbin 2;");
    for (int n : new int[] {MIN, -1, 0, 5, MAX}) {
      no(39, "times(" + n + "), 1 ahead of 5", x, x.times(n), 1);
    }
    for (int n = 1; n <= 4; n++) {
      no(39, "times(" + n + "), none is wished", x, x.times(n), 5);
      HornBraider y = of("size 1 1;bobbin 0;bobbin 2;word" + " - 1".repeat(n) + ";");
      y.step(1);
      for (int m = 1; m <= 4; m++) {
        yes(39, "times(" + m + ") of a wished one of " + n, y, y.times(m), m == n ? 1 : 0);
      }
      no(39, "times(0)", y, y.times(0), 1);
      no(39, "times(5)", y, y.times(5), 1);
    }
    // - 2 - 1 - 3 four times are 12 letters, a full twist of four threads
    HornBraider z = of("size 1 1;bobbin 0;bobbin 1;bobbin 2;bobbin 3;word" + " - 1 - 2 - 3".repeat(4) + ";");
    z.step(1);
    yes(39, "times(4), a full twist", z, z.times(4), 1);
    yes(39, "times(3), not yet", z, z.times(3), 0);
  }

  // ---- what is wished, what was seen: promises 40 to 46

  private static void searchEdges() {
    HornBraider x = of("size 1 2;bobbin 0;free 0;");
    for (int n : new int[] {MIN, -1, 0, 65, MAX}) {
      no(40, "search(" + n + ")", x, x.search(n), 1);
      no(41, "refusal(" + n + ",0,0)", x, x.refusal(n, 0, 0), 1);
      no(42, "refused(" + n + ",0)", x, x.refused(n, 0), 1);
    }
    yes(40, "search(1), nothing is wished", x, x.search(1), 0);
    yes(40, "search(64), nothing is wished", x, x.search(64), 0);
    x.wish(0, 7);
    yes(40, "search(1)", x, x.search(1), 1);
    x.wish(0, 6);
    no(40, "search(1), all are refused", x, x.search(1), 5);
    yes(40, "search(2)", x, x.search(2), 1);
    // shut it comes round in 4, open in 8: both are home behind 64
    x.wish(0, 0);
    yes(40, "search(64)", x, x.search(64), 0);
    yes(42, "refused(64,0)", x, x.refused(64, 0), 2);
    yes(40, "search(60)", x, x.search(60), 0);
    yes(42, "refused(60,0)", x, x.refused(60, 0), 1);
    x.wish(0, 4);
    yes(40, "search(60), open", x, x.search(60), 1);
    x.program(0, 1, 1);
    yes(40, "search(60), whatever its program tells", x, x.search(60), 1);
    x.stick(0, 1);
    no(40, "search(60), it is stuck shut", x, x.search(60), 5);
    yes(42, "refused(60,2), both settings are the same", x, x.refused(60, 2), 2);
    x.stick(0, 2);
    yes(40, "search(60), it is stuck open", x, x.search(60), 0);
    x.free(0, false);
    x.stick(0, 0);
    yes(40, "search(60), none is free: by its program", x, x.search(60), 0);
    // a stuck one has its bit, too: 6 goes over at the second one
    HornBraider z = of("size 1 3;free 0;free 1;stuck 0 shut;bobbin 6;place 0 11;");
    yes(40, "search(1), the second free one", z, z.search(1), 2);
    z.stick(0, 2);
    yes(40, "search(1), whatever the first one is", z, z.search(1), 2);
    yes(42, "refused(1,0), with the first one's bit or without", z, z.refused(1, 0), 2);
    z.stick(1, 2);
    yes(40, "search(1), both are stuck", z, z.search(1), 0);
    HornBraider y = new HornBraider();
    yes(40, "search(64), no bobbins, none free", y, y.search(64), 0);
    yes(42, "refused(64,0)", y, y.refused(64, 0), 1);
  }

  private static void refusalEdges() {
    HornBraider x = of("size 4 5;" + SIX + "bobbin 0;");
    for (int k : new int[] {MIN, -1, 64, MAX}) {
      no(41, "refusal(1," + k + ",0)", x, x.refusal(1, k, 0), 1);
    }
    yes(41, "refusal(1,63,0)", x, x.refusal(1, 63, 0), 0);
    yes(41, "refusal(64,0,0)", x, x.refusal(64, 0, 0), 0);
    for (int what : new int[] {MIN, -1, 5, MAX}) {
      no(41, "refusal(1,0," + what + ")", x, x.refusal(1, 0, what), 1);
    }
    for (int what = 1; what <= 3; what++) {
      no(41, "refusal(1,0," + what + "), found", x, x.refusal(1, 0, what), 5);
    }
    yes(41, "refusal(1,0,4), found", x, x.refusal(1, 0, 4), 0);
    for (int s = 0; s < 6; s++) {
      yes(41, "refusal() of the last setting of " + (6 - s), x, x.refusal(1, (1 << 6 - s) - 1, 0), 0);
      no(41, "refusal() of one more of " + (6 - s), x, x.refusal(1, 1 << 6 - s, 0), 1);
      x.free(s, false);
    }
    yes(41, "refusal(1,0,0), none is free", x, x.refusal(1, 0, 0), 0);
    no(41, "refusal(1,1,0), none is free", x, x.refusal(1, 1, 0), 1);
    // a wished place that only bit 5 of k brings: switch 30 is that below wheel 14
    HornBraider y = of("size 4 5;free 0;free 1;free 2;free 3;free 4;free 30;bobbin 57;place 0 76;");
    yes(40, "search(1)", y, y.search(1), 32);
    yes(42, "refused(1,0)", y, y.refused(1, 0), 32);
    yes(42, "refused(1,2)", y, y.refused(1, 2), 32);
    yes(41, "refusal(1,31,3)", y, y.refusal(1, 31, 3), 0);
    no(41, "refusal(1,32,3)", y, y.refusal(1, 32, 3), 5);
  }

  private static void refusedEdges() {
    HornBraider x = of("size 1 2;free 0;bobbin 0;");
    for (int why : new int[] {MIN, -1, 5, MAX}) {
      no(42, "refused(1," + why + ")", x, x.refused(1, why), 1);
      no(42, "refused(0," + why + ")", x, x.refused(0, why), 1);
    }
    int[] due = {2, 0, 0, 0, 0};
    for (int why = 0; why <= 4; why++) {
      yes(42, "refused(64," + why + ")", x, x.refused(64, why), due[why]);
    }
    HornBraider y = of("size 4 5;" + SIX);
    yes(42, "refused(1,0) of 64", y, y.refused(1, 0), 64);
  }

  /** The first WHY that holds, and what is told of each. */
  private static void whyOrder() {
    // behind 2 steps 2 and 6 meet, whatever else is wished: 1
    HornBraider x = of("size 1 2;bobbin 6;bobbin 2;free 0;place 0 0;word 7;");
    yes(41, "WHY at 3 steps, 1 ahead of 2 and 4", x, x.refusal(3, 0, 0), 1);
    yes(41, "the step", x, x.refusal(3, 0, 1), 2);
    yes(41, "the switch", x, x.refusal(3, 0, 2), 0);
    no(41, "the bobbin", x, x.refusal(3, 0, 3), 5);
    no(41, "the letters", x, x.refusal(3, 0, 4), 5);
    yes(41, "WHY at 2 steps, 2 ahead of 4", x, x.refusal(2, 0, 0), 2);
    no(41, "the step", x, x.refusal(2, 0, 1), 5);
    no(41, "the switch", x, x.refusal(2, 0, 2), 5);
    yes(41, "the bobbin", x, x.refusal(2, 0, 3), 0);
    yes(41, "the letters", x, x.refusal(2, 0, 4), 0);
    x.wish(0, 4);
    x.wish(1, 1);
    yes(41, "the bobbin, the second one", x, x.refusal(2, 0, 3), 1);
    x.wish(1, 0);
    yes(41, "WHY at 2 steps, 4", x, x.refusal(2, 0, 0), 4);
    no(41, "the bobbin", x, x.refusal(2, 0, 3), 5);
    yes(41, "the letters", x, x.refusal(2, 0, 4), 0);
    yes(42, "refused(3,1)", x, x.refused(3, 1), 2);
    yes(42, "refused(2,4)", x, x.refused(2, 4), 2);
    // as many letters with the same signs are not yet one braid
    String three = "size 1 1;bobbin 0;bobbin 1;bobbin 2;";
    yes(41, "WHY with - 1 - 2 wished", x = of(three + "word - 1 - 2;"), x.refusal(1, 0, 0), 0);
    yes(41, "WHY with - 2 - 1 wished", x = of(three + "word - 2 - 1;"), x.refusal(1, 0, 0), 4);
    yes(41, "WHY with - 2 - 1 - 2 wished", x = of(three + "word - 2 - 1 - 2;"), x.refusal(2, 0, 0), 0);
    yes(41, "WHY with - 2 - 2 - 1 wished", x = of(three + "word - 2 - 2 - 1;"), x.refusal(2, 0, 0), 4);
    // a meeting at the step behind the last is none
    yes(41, "refusal(2,0,0) ahead of the meeting", x = of("size 1 2;bobbin 6;bobbin 2;"), x.refusal(2, 0, 0), 0);
    yes(41, "refusal(3,0,0) with the meeting", x, x.refusal(3, 0, 0), 1);
    // 6 letters each step: 300 behind 50, 306 behind 51; 3 ahead of 4, 2 ahead of 3
    HornBraider y = of("size 2 2;bobbin 0;bobbin 1;bobbin 2;bobbin 3;bobbin 12;bobbin 13;bobbin 14;bobbin 15;word;");
    yes(41, "WHY of 300 letters", y, y.refusal(50, 0, 0), 4);
    yes(41, "letters of 300", y, y.refusal(50, 0, 4), 300);
    yes(41, "WHY of 306 letters", y, y.refusal(51, 0, 0), 3);
    no(41, "letters of 306", y, y.refusal(51, 0, 4), 5);
    y.wish(7, 12);
    yes(41, "WHY of 306 letters, and not in its place", y, y.refusal(51, 0, 0), 2);
    yes(41, "which", y, y.refusal(51, 0, 3), 7);
    no(41, "letters of 306, and not in its place", y, y.refusal(51, 0, 4), 5);
    y.wish(7, 14);
    yes(41, "WHY of 306 letters, in its place", y, y.refusal(51, 0, 0), 3);
    // 7, 8, 6, 5 letters by turns: 293 behind 45 steps, 301 behind 46
    HornBraider z = of("size 4 1;bobbin 0;bobbin 12;bobbin 3;bobbin 8;bobbin 1;bobbin 9;");
    int[] letters = {7, 15, 21, 26};
    for (int n = 1; n <= 4; n++) {
      yes(41, "letters of " + n + " steps", z, z.refusal(n, 0, 4), letters[n - 1]);
    }
    yes(41, "WHY of 293 letters", z, z.refusal(45, 0, 0), 0);
    yes(41, "letters of 293", z, z.refusal(45, 0, 4), 293);
    yes(41, "WHY of 301 letters", z, z.refusal(46, 0, 0), 3);
    no(41, "letters of 301", z, z.refusal(46, 0, 4), 5);
    no(40, "search(46)", z, z.search(46), 5);
    yes(40, "search(45)", z, z.search(45), 0);
    yes(18, "step(100), as long as they can be", z, z.step(100), 45);
    yes(18, "many(6)", z, z.many(6), 293);
    no(18, "step(1), 301", z, z.step(1), 3);
  }

  /** No call rests on what another one worked out ahead of it. */
  private static void eachCallAnew() {
    String text = "size 1 2;switch 0 1;bobbin 0;bobbin 5;word 1;";
    HornBraider x = of(text);
    yes(41, "refusal(2,0,0) ahead of any other call", x, x.refusal(2, 0, 0), 0);
    yes(42, "refused(2,0) ahead of any other call", x = of(text), x.refused(2, 0), 1);
    yes(40, "search(2) ahead of any other call", x = of(text), x.search(2), 0);
    x.program(0, 0, 1);
    yes(41, "refusal(2,0,0) behind program()", x, x.refusal(2, 0, 0), 4);
    yes(42, "refused(2,4) behind program()", x, x.refused(2, 4), 1);
    no(40, "search(2) behind program()", x, x.search(2), 5);
    // two settings that make the same word, each told by itself
    HornBraider y = of("size 1 3;free 1;bobbin 0;bobbin 2;word - 1;");
    yes(35, "braid(2) ahead of it", y, y.braid(2), 1);
    yes(42, "refused(1,0), both are found", y, y.refused(1, 0), 2);
    yes(41, "refusal(1,1,0)", y, y.refusal(1, 1, 0), 0);
    yes(41, "refusal(1,1,0) again", y, y.refusal(1, 1, 0), 0);
    HornBraider z = of("size 1 1;bobbin 0;bobbin 2;word 1;");
    for (int i = 0; i < 2; i++) {
      int[] due = {0, 2, 1, 0, 1, 1, 1};
      for (int what = 6; what >= 0; what--) {
        for (int then = 0; then <= 6; then++) {
          yes(35, "braid(" + what + ") behind others", z, z.braid(what), due[what]);
          yes(35, "braid(" + then + ") behind braid(" + what + ")", z, z.braid(then), due[then]);
        }
      }
      z.step(4);
      z.cut();
    }
  }

  private static void seenEdges() {
    HornBraider x = of("size 4 5;bobbin 0;bobbin 79;");
    for (int steps : new int[] {MIN, -1, 65, MAX}) {
      no(43, "seen(0," + steps + ",0)", x, x.seen(0, steps, 0), 1);
      no(43, "seen(2," + steps + ",80), 1 ahead of 2", x, x.seen(2, steps, 80), 1);
    }
    for (int b : new int[] {MIN, -1, 2, MAX}) {
      no(43, "seen(" + b + ",0,0)", x, x.seen(b, 0, 0), 2);
    }
    for (int slot : new int[] {MIN, -1, 80, MAX}) {
      no(43, "seen(0,0," + slot + ")", x, x.seen(0, 0, slot), 2);
    }
    yes(43, "seen(0,0,0)", x, x.seen(0, 0, 0), 1);
    yes(43, "seen(1,64,79)", x, x.seen(1, 64, 79), 2);
    for (int i = 3; i <= 12; i++) {
      yes(43, "the same again, number " + i, x, x.seen(1, 64, 79), i);
    }
    no(43, "a 13th", x, x.seen(1, 64, 79), 3);
    no(43, "a 13th of no bobbin, 2 ahead of 3", x, x.seen(2, 64, 79), 2);
    no(43, "a 13th in no slot, 2 ahead of 3", x, x.seen(1, 64, 80), 2);
    no(43, "a 13th behind 65, 1 ahead of 3", x, x.seen(1, 65, 79), 1);
    yes(43, "many(10)", x, x.many(10), 12);
    yes(45, "name(0), all of it is so", x, x.name(0), 0);
    yes(44, "forget()", x, x.forget(), 12);
    yes(44, "many(10)", x, x.many(10), 0);
    yes(44, "forget() again", x, x.forget(), 0);
    yes(43, "the first again", x, x.seen(1, 64, 79), 1);
  }

  private static void nameEdges() {
    // over 0 at step 0, over 1 at step 2, over 2 at step 4: to 7, 6, 11, 8, 15
    HornBraider x = of("size 1 4;bobbin 0;");
    for (int what : new int[] {MIN, -1, 2, MAX}) {
      no(45, "name(" + what + ")", x, x.name(what), 1);
    }
    yes(45, "name(0), nothing was seen", x, x.name(0), 0);
    yes(45, "name(1), the empty set", x, x.name(1), 1);
    x.seen(0, 1, 7);
    yes(45, "name(0), one", x, x.name(0), 1);
    yes(45, "name(1), one", x, x.name(1), 1);
    x.seen(0, 3, 11);
    yes(45, "name(0), two", x, x.name(0), 2);
    yes(45, "name(1), two", x, x.name(1), 1);
    x.seen(0, 5, 15);
    no(45, "name(0), three would be needed", x, x.name(0), 5);
    no(45, "name(1), three would be needed", x, x.name(1), 5);
    no(45, "name(2), 1 ahead of 5", x, x.name(2), 1);
    x.program(2, 1, 1);
    yes(45, "name(0), the third by its program", x, x.name(0), 2);
    x.program(2, 0, 1);
    x.stick(2, 2);
    no(45, "name(0), what is told stuck is none of them", x, x.name(0), 5);
    x.forget();
    yes(45, "name(0), nothing was seen", x, x.name(0), 0);
    // two meet at step 2: up to the greatest number only
    HornBraider y = of("size 1 2;bobbin 2;bobbin 6;");
    y.seen(0, 2, 0);
    yes(45, "name(0), they have not met yet", y, y.name(0), 0);
    y.seen(0, 3, 1);
    no(45, "name(0), they meet, be it open or shut", y, y.name(0), 5);
    // nothing seen, or only behind 0: no step is looked at
    HornBraider v = of("size 1 2;bobbin 0;bobbin 4;");
    yes(45, "name(0), two would meet at once, nothing was seen", v, v.name(0), 0);
    v.seen(1, 0, 4);
    yes(45, "name(0), two would meet at once, seen behind 0", v, v.name(0), 0);
    v.seen(1, 1, 7);
    no(45, "name(0), two meet at once, seen behind 1", v, v.name(0), 5);
    // seen behind 64: shut it is home, open too; so all is home by any set
    HornBraider z = of("size 1 2;bobbin 0;");
    z.seen(0, 64, 0);
    yes(45, "name(0) of 64 steps", z, z.name(0), 0);
    z.seen(0, 60, 4);
    yes(45, "name(0) of 60 steps, stuck open", z, z.name(0), 1);
    yes(46, "named(0,0)", z, z.named(0, 0), 1);
    HornBraider w = new HornBraider();
    yes(45, "name(0), no switches", w, w.name(0), 0);
    w.put(0);
    w.seen(0, 0, 1);
    no(45, "name(0), no switches, and it was elsewhere", w, w.name(0), 5);
  }

  private static void namedEdges() {
    HornBraider x = of("size 1 4;bobbin 0;");
    for (int below : new int[] {MIN, -1}) {
      no(46, "named(" + below + ",0)", x, x.named(below, 0), 1);
      no(46, "named(0," + below + ")", x, x.named(0, below), 1);
      no(46, "named(9," + below + "), 1 ahead of 5", x, x.named(9, below), 1);
    }
    no(46, "named(0,0) of the empty set", x, x.named(0, 0), 5);
    no(46, "named(1,0)", x, x.named(1, 0), 5);
    x.seen(0, 3, 11);
    yes(46, "named(0,0)", x, x.named(0, 0), 1);
    yes(46, "named(0,1)", x, x.named(0, 1), 3);
    no(46, "named(0,2)", x, x.named(0, 2), 5);
    no(46, "named(1,0)", x, x.named(1, 0), 5);
    no(46, "named(MAX,0)", x, x.named(MAX, 0), 5);
    no(46, "named(0,MAX)", x, x.named(0, MAX), 5);
    // stuck shut, at a switch that is open by its program
    HornBraider y = of("size 1 2;switch 0 1;bobbin 0;");
    y.seen(0, 1, 1);
    yes(46, "named(0,0), shut", y, y.named(0, 0), 0);
    no(46, "named(0,1) of one", y, y.named(0, 1), 5);
    // the last switch of all, open: 57 turns to 58 and goes over to 76
    HornBraider z = of("size 4 5;bobbin 57;");
    z.seen(0, 1, 76);
    yes(45, "name(1), the last switch", z, z.name(1), 1);
    yes(46, "named(0,0), the last switch", z, z.named(0, 0), 61);
    namedOrder();
  }

  /** Sets by the lesser SWITCH, SHUT ahead of OPEN, then the other one likewise. */
  private static void namedOrder() {
    // the second one went over at switch 0, the first one turned as it does anyway
    HornBraider x = of("size 2 2;bobbin 12;bobbin 0;");
    x.seen(1, 1, 7);
    x.seen(0, 1, 13);
    yes(46, "name(0), switch 0", x, x.name(0), 1);
    yes(46, "named(0,0)", x, x.named(0, 0), 1);
    HornBraider y = of("size 1 4;switch 1 1;bobbin 0;bobbin 10;");
    // 0 went over 0 though it is shut; 10 (left at 11, above at 8) did not come to 5
    y.seen(0, 1, 7);
    y.seen(1, 1, 11);
    yes(46, "name(0), two", y, y.name(0), 2);
    yes(46, "named(0,0), the lesser, open", y, y.named(0, 0), 1);
    yes(46, "named(0,1), the other one, shut", y, y.named(0, 1), 2);
    // over 0 it is on 8 slots if 1 is shut, on 12 if it is open: behind 19 it is at 5 by both
    HornBraider z = of("size 1 3;switch 1 1 0 0;bobbin 0;");
    z.seen(0, 19, 5);
    allNamed(z, new int[][] {{1, 2}, {1, 3}});
    // 1, 8, 11, 10, 9, 2, 3, 0, 1, 8, 11, 10 or 7, 12, 13, 14, 15, 6, 5, 4, 1, 8, 11, 10, or over 1
    HornBraider w = of("size 2 2;switch 0 1 0 0;switch 3 1;bobbin 0;");
    w.seen(0, 12, 10);
    allNamed(w, new int[][] {{0, 5}, {1, 5}, {3, 5}});
    // the two last switches of all, 55 to 54 and over, 57 to 58 and over
    HornBraider v = of("size 4 5;bobbin 55;bobbin 57;");
    v.seen(1, 1, 76);
    v.seen(0, 1, 72);
    allNamed(v, new int[][] {{59, 61}});
  }

  private static void allNamed(HornBraider x, int[][] sets) {
    yes(45, "name(1)", x, x.name(1), sets.length);
    yes(45, "name(0)", x, x.name(0), sets[0].length);
    for (int i = 0; i < sets.length; i++) {
      for (int k = 0; k < sets[i].length; k++) {
        yes(46, "named(" + i + "," + k + ")", x, x.named(i, k), sets[i][k]);
      }
      no(46, "named(" + i + "), one more", x, x.named(i, sets[i].length), 5);
    }
    no(46, "named(), one set more", x, x.named(sets.length, 0), 5);
  }
}
