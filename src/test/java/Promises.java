/** For each promise of the document: ordinary inputs, the edges that it names, wrong inputs. */
public final class Promises extends Due {
  public static void main(String[] args) {
    newObject();
    statuses();
    feeds();
    loads();
    faults();
    counts();
    gatesAndBits();
    bobbins();
    slots();
    programs();
    sticksAndFrees();
    putsAndTakes();
    wishes();
    steps();
    resetsAndCuts();
    prints();
    maps();
    tracks();
    meetings();
    crashes();
    repeats();
    laidOnes();
    letters();
    braids();
    longBraids();
    threads();
    timesOver();
    searches();
    sightings();
    names();
    endOfAll();
  }

  private static void newObject() {
    HornBraider x = new HornBraider();
    plain(1, "status()", x.status(), 0);
    int[] due = {1, 1, 0, 4, 0, 0, 0, 0, 0, 1, 0, NONE};
    for (int i = 0; i < due.length; i++) {
      ask(1, "many(" + i + ")", x, x.many(i), due[i], 0);
    }
    no(1, "out(0)", x, x.out(0), 5);
    no(1, "wished(0)", x, x.wished(0), 5);
    plain(1, "NONE", HornBraider.NONE, -1);
  }

  private static void statuses() {
    HornBraider x = new HornBraider();
    x.many(12);
    plain(2, "status()", x.status(), 1);
    plain(2, "status() again", x.status(), 1);
    x.feed(0, 0, 0, 0, 0);
    x.fault(0);
    x.fault(7);
    plain(2, "status() behind feed, fault", x.status(), 1);
    x.many(0);
    plain(2, "status()", x.status(), 0);
    x.at(9);
    plain(2, "status()", x.status(), 2);
  }

  private static void feeds() {
    HornBraider x = new HornBraider();
    for (int i = 1; i <= 45; i++) {
      plain(3, "feed", x.feed(0, 0, 0, 0, 0), 20 * i);
    }
    plain(3, "feed beyond 900", x.feed(0, 0, 0, 0, 0), NONE);
    no(3, "load(901)", x, x.load(901), 1);
    no(3, "load(900)", x, x.load(900), 9);
    plain(3, "feed behind load", x.feed(0, 0, 0, 0, 0), 20);
    HornBraider y = new HornBraider();
    // "size", " 3 5", ";\n\n\n", blanks; a byte above 127 in the part that is not read
    y.feed(0x73697a65, 0x20332035, 0x3b0a0a0a, 0x20202020, 0x202020ff);
    ask(3, "load(19)", y, y.load(19), 60, 0);
    HornBraider z = new HornBraider();
    z.feed(0x73697a65, 0x20332035, 0x3b0a0a0a, 0x20202020, 0x202020ff);
    no(3, "load(20)", z, z.load(20), 9);
    plain(3, "fault(1)", z.fault(1), 19);
  }

  private static void loads() {
    HornBraider x = new HornBraider();
    feedText(x, "size 2 3;");
    no(4, "load(-1)", x, x.load(-1), 1);
    no(4, "load(21)", x, x.load(21), 1);
    plain(4, "fault(0) ahead of any", x.fault(0), NONE);
    ask(4, "load(20)", x, x.load(20), 24, 0);
    no(4, "load(1)", x, x.load(1), 1);
    no(4, "load(0)", x, x.load(0), 9);
    ask(4, "many(3) behind a fault", x, x.many(3), 24, 0);
    x.put(0);
    x.put(1);
    x.wish(0, 3);
    x.seen(0, 1, 1);
    x.free(0, true);
    x.stick(1, 2);
    x.program(2, 1, 2);
    x.step(3);
    x.print();
    no(4, "load of a fault", x, loadText(x, "size 1 1;bobbin 4;"), 9);
    ask(4, "many(5) behind a fault", x, x.many(5), 3, 0);
    ask(4, "many(10) behind a fault", x, x.many(10), 1, 0);
    ask(4, "out(0) behind a fault", x, x.out(0), 's', 0);
    ask(4, "load of another", x, loadText(x, "size 2 3;"), 24, 0);
    int[] due = {2, 3, 7, 24, 0, 0, 0, 0, 0, 1, 0, NONE};
    for (int i = 0; i < due.length; i++) {
      ask(4, "many(" + i + ") anew", x, x.many(i), due[i], 0);
    }
    no(4, "out(0) anew", x, x.out(0), 5);
    ask(4, "the greatest", x, loadText(x, "size 4 5;"), 80, 0);
    ask(4, "tokens without blanks", x, loadText(x, "size1 2;switch0 1 0;stuck0open;bobbin5;word-1 1-1;"), 8, 0);
    ask(4, "bit(0,0)", x, x.bit(0, 0), 1, 0);
    ask(4, "wished(2)", x, x.wished(2), -1, 0);
    ask(4, "told twice", x, loadText(x, "size 1 2;switch 0 1 1;switch 0 0 1 1;stuck 0 open;stuck 0 shut;free 0;free 0;"
        + "bobbin 0;place 0 1;place 0 2;word 1 2;word - 3;"), 8, 0);
    ask(4, "gate(0,0)", x, x.gate(0, 0), 3, 0);
    ask(4, "gate(0,2)", x, x.gate(0, 2), 1, 0);
    ask(4, "many(7)", x, x.many(7), 1, 0);
    ask(4, "bobbin(0,5)", x, x.bobbin(0, 5), 2, 0);
    ask(4, "many(11)", x, x.many(11), 1, 0);
    ask(4, "wished(0)", x, x.wished(0), -3, 0);
    ask(4, "an empty word", x, loadText(x, "size 1 2;word;"), 8, 0);
    ask(4, "many(11)", x, x.many(11), 0, 0);
  }

  private static void faults() {
    HornBraider x = new HornBraider();
    plain(5, "fault(0)", x.fault(0), NONE);
    plain(5, "fault(1)", x.fault(1), NONE);
    loadText(x, "size 1 1");
    plain(5, "fault(0)", x.fault(0), 2);
    plain(5, "fault(2)", x.fault(2), NONE);
    plain(5, "fault(-1)", x.fault(-1), NONE);
    x.load(-1);
    plain(5, "fault(0) behind status 1", x.fault(0), 2);
    loadText(x, "size 1 1;");
    plain(5, "fault(0)", x.fault(0), 0);
    plain(5, "fault(1)", x.fault(1), NONE);
    // 1: no token begins so
    fault("Size 1 1;", 1, 0);
    fault("size 0001 1;", 1, 5);
    fault("size 1 1;word 1000;", 1, 14);
    fault("size 1 1;\t", 1, 9);
    fault("size 1 1;word 1,2;", 1, 15);
    fault("size 1 2;stuck 0 4444;", 1, 17);
    fault("size 1 2; 1234", 1, 10);
    fault("size 1 2;" + (char) 233, 1, 9);
    // 2: it can't stand there, or the end
    fault("", 2, 0);
    fault("  \n", 2, 3);
    fault("siz 1 1;", 2, 0);
    fault("sizes 1 1;", 2, 0);
    fault("1", 2, 0);
    fault("size 1;", 2, 6);
    fault("size 1 1 1;", 2, 9);
    fault("size 1 1  ", 2, 10);
    fault("size 1 1;size 1 1;", 2, 9);
    fault("size 1 1;;", 2, 9);
    fault("size 1 1;- 1;", 2, 9);
    fault("size 1 2;switch 0;", 2, 17);
    fault("size 1 2;switch 0 - 1;", 2, 18);
    fault("size 1 2;switch;", 2, 15);
    fault("size 1 2;bobbin 1 2;", 2, 18);
    fault("size 1 2;stuck 0;", 2, 16);
    fault("size 1 2;stuck 0 ajar;", 2, 17);
    fault("size 1 2;stuck 0 opens;", 2, 17);
    fault("size 1 2;stuck 0 open open;", 2, 22);
    fault("size 1 2;free 0 1;", 2, 16);
    fault("size 1 2;word - - 1;", 2, 16);
    fault("size 1 2;word -;", 2, 15);
    fault("size 1 2;word 1 open;", 2, 16);
    fault("size 1 2;word 1", 2, 15);
    fault("size 1 2;words 1;", 2, 9);
    // 3: a number that can't be
    fault("size 0 1;", 3, 5);
    fault("size 5 1;", 3, 5);
    fault("size 4 6;", 3, 7);
    fault("size 1 0;", 3, 7);
    fault("size 1 1;switch 0 1;", 3, 16);
    fault("size 1 2;switch 1 1;", 3, 16);
    fault("size 1 2;switch 0 2;", 3, 18);
    fault("size 1 2;switch 0 1 0 1 0 2;", 3, 26);
    fault("size 1 2;bobbin 8;", 3, 16);
    fault("size 1 2;stuck 1 open;", 3, 15);
    fault("size 1 2;free 1;", 3, 14);
    fault("size 1 2;place 0 0;bobbin 0;", 3, 15);
    fault("size 1 2;bobbin 0;place 1 0;", 3, 24);
    fault("size 1 2;bobbin 0;place 0 8;", 3, 26);
    fault("size 1 2;word 0;", 3, 14);
    fault("size 1 2;word 1 - 8;", 3, 18);
    // 4: a start that is taken
    fault("size 1 2;bobbin 1;bobbin 1;", 4, 25);
    fault("size 1 2;bobbin 1;bobbin 7;", 4, 25);
    fault("size 2 1;bobbin 4;bobbin 2;", 4, 25);
    // 6: one too many
    String nine = "size 4 5;" + "bobbin 0;bobbin 2;bobbin 4;bobbin 6;bobbin 8;bobbin 10;bobbin 12;bobbin 14;";
    fault(nine + "bobbin 16;", 6, nine.length());
    fault(nine + "bobbin 99;", 6, nine.length());
    fault(nine + "bobbin;", 6, nine.length());
    fault(nine + " bobbinn", 2, nine.length() + 1);
    String six = "size 4 5;free 0;free 1;free 2;free 2;free 3;free 4;free 5;";
    fault(six + "free 6;", 6, six.length());
    fault(six + "free 5;", 6, six.length());
    fault("size 1 2;switch 0 1 0 1 0 1;", 6, 26);
    String sixty = "size 1 2;word" + repeated(" 1", 60);
    fault(sixty + " 1;", 6, sixty.length() + 1);
    fault(sixty + " - 1;", 6, sixty.length() + 3);
    fault(sixty + " - 9;", 3, sixty.length() + 3);
    fault(sixty + " x;", 2, sixty.length() + 1);
    // the first along the text
    fault("size 1 2;bobbin 9;#", 3, 16);
    fault("size 1 2;#bobbin 9;", 1, 9);
  }

  private static void counts() {
    HornBraider x = of("size 3 2;switch 0 1;switch 1 0 1;switch 2 1 0 1;stuck 3 shut;stuck 4 open;free 3;free 5;free 6;"
        + "bobbin 0;bobbin 2;word 1 - 1 2;");
    x.seen(1, 4, 5);
    int[] due = {3, 2, 7, 24, 2, 0, 0, 3, 2, 6, 1, 3};
    for (int i = 0; i < due.length; i++) {
      ask(6, "many(" + i + ")", x, x.many(i), due[i], 0);
    }
    no(6, "many(-1)", x, x.many(-1), 1);
    no(6, "many(12)", x, x.many(12), 1);
    x.program(3, 0, 4);
    ask(6, "many(9) with a stuck one of 4 bits", x, x.many(9), 12, 0);
    x.step(1);
    ask(6, "many(5)", x, x.many(5), 1, 0);
    ask(6, "many(6)", x, x.many(6), 1, 0);
    ask(6, "switches of 4 by 5", x = of("size 4 5;"), x.many(2), 31, 0);
  }

  private static void gatesAndBits() {
    HornBraider x = of("size 2 3;switch 1 0 1 1;stuck 2 open;stuck 3 shut;free 6;");
    int[][] slots = {{1, 7}, {5, 11}, {13, 19}, {17, 23}, {2, 12}, {6, 16}, {10, 20}};
    for (int s = 0; s < 7; s++) {
      ask(7, "gate(" + s + ",4)", x, x.gate(s, 4), slots[s][0], 0);
      ask(7, "gate(" + s + ",5)", x, x.gate(s, 5), slots[s][1], 0);
      ask(7, "gate(" + s + ",0)", x, x.gate(s, 0), s == 1 ? 3 : 1, 0);
      ask(7, "gate(" + s + ",2)", x, x.gate(s, 2), s == 2 ? 2 : s == 3 ? 1 : 0, 0);
      ask(7, "gate(" + s + ",3)", x, x.gate(s, 3), s == 6 ? 1 : 0, 0);
    }
    int[] due = {0, 1, 1, 0, 1, 1, 0};
    for (int t = 0; t < due.length; t++) {
      ask(7, "gate(1,1) at " + t, x, x.gate(1, 1), due[t], 0);
      ask(7, "gate(2,1) at " + t, x, x.gate(2, 1), 1, 0);
      ask(7, "gate(3,1) at " + t, x, x.gate(3, 1), 0, 0);
      x.step(1);
    }
    x.program(3, 1, 1);
    ask(7, "gate(3,1) stuck shut", x, x.gate(3, 1), 0, 0);
    no(7, "gate(7,0)", x, x.gate(7, 0), 2);
    no(7, "gate(-1,0)", x, x.gate(-1, 0), 2);
    no(7, "gate(0,6)", x, x.gate(0, 6), 1);
    no(7, "gate(7,-1)", x, x.gate(7, -1), 1);
    for (int k = 0; k < 3; k++) {
      ask(8, "bit(1," + k + ")", x, x.bit(1, k), k == 0 ? 0 : 1, 0);
    }
    no(8, "bit(1,3)", x, x.bit(1, 3), 5);
    no(8, "bit(7,0)", x, x.bit(7, 0), 2);
    no(8, "bit(-1,0)", x, x.bit(-1, 0), 2);
    no(8, "bit(7,-1)", x, x.bit(7, -1), 1);
    ask(8, "bit of a stuck one", x, x.bit(2, 0), 0, 0);
  }

  private static void bobbins() {
    // wheel 4 of 2 by 3 is in row 1, column 1: its point is x 2, y 2
    HornBraider x = of("size 2 3;bobbin 19;bobbin 16;bobbin 18;bobbin 0;bobbin 3;place 1 7;");
    int[][] due = {{19, 1, 2, 19, 2, NONE}, {16, 2, 1, 16, 3, 7}, {18, 2, 3, 18, 4, NONE}, {0, 0, -1, 0, 1, NONE}, {3, -1, 0, 3, 0, NONE}};
    for (int b = 0; b < 5; b++) {
      for (int what = 0; what < 6; what++) {
        ask(9, "bobbin(" + b + "," + what + ")", x, x.bobbin(b, what), due[b][what], 0);
      }
    }
    ask(9, "step(1)", x, x.step(1), 1, 0);
    ask(9, "bobbin(3,0)", x, x.bobbin(3, 0), 1, 0);
    ask(9, "bobbin(3,3)", x, x.bobbin(3, 3), 0, 0);
    ask(9, "bobbin(3,4)", x, x.bobbin(3, 4), 1, 0);
    ask(9, "bobbin(1,0)", x, x.bobbin(1, 0), 17, 0);
    ask(9, "bobbin(0,0)", x, x.bobbin(0, 0), 16, 0);
    no(9, "bobbin(5,0)", x, x.bobbin(5, 0), 2);
    no(9, "bobbin(-1,0)", x, x.bobbin(-1, 0), 2);
    no(9, "bobbin(5,6)", x, x.bobbin(5, 6), 1);
    no(9, "bobbin(0,-1)", x, x.bobbin(0, -1), 1);
  }

  private static void slots() {
    HornBraider x = of("size 1 2;switch 0 1;bobbin 0;bobbin 5;");
    ask(10, "at(0)", x, x.at(0), 0, 0);
    ask(10, "at(5)", x, x.at(5), 1, 0);
    no(10, "at(1)", x, x.at(1), 5);
    no(10, "at(8)", x, x.at(8), 2);
    no(10, "at(-1)", x, x.at(-1), 2);
    x.step(1);
    ask(10, "at(7) over the switch", x, x.at(7), 0, 0);
    no(10, "at(0)", x, x.at(0), 5);
    HornBraider y = of("size 2 2;");
    int[] due = {NONE, 7, 8, NONE, NONE, NONE, 12, 1, 2, 15, NONE, NONE, 6, NONE, NONE, 9};
    for (int slot = 0; slot < 16; slot++) {
      ask(11, "faces(" + slot + ")", y, y.faces(slot), due[slot], due[slot] == NONE ? 5 : 0);
    }
    no(11, "faces(16)", y, y.faces(16), 2);
    no(11, "faces(-1)", y, y.faces(-1), 2);
  }

  private static void programs() {
    HornBraider x = of("size 1 3;");
    ask(12, "program(0,5,3)", x, x.program(0, 5, 3), 3, 0);
    ask(12, "bit(0,0)", x, x.bit(0, 0), 1, 0);
    ask(12, "bit(0,1)", x, x.bit(0, 1), 0, 0);
    ask(12, "bit(0,2)", x, x.bit(0, 2), 1, 0);
    no(12, "program(0,5,3) again", x, x.program(0, 5, 3), 4);
    ask(12, "program(0,5,4)", x, x.program(0, 5, 4), 4, 0);
    no(12, "program(1,0,1)", x, x.program(1, 0, 1), 4);
    ask(12, "program(1,0,2)", x, x.program(1, 0, 2), 2, 0);
    no(12, "program(0,0,0)", x, x.program(0, 0, 0), 1);
    no(12, "program(0,0,5)", x, x.program(0, 0, 5), 1);
    no(12, "program(0,-1,4)", x, x.program(0, -1, 4), 1);
    no(12, "program(0,16,4)", x, x.program(0, 16, 4), 1);
    no(12, "program(0,4,2)", x, x.program(0, 4, 2), 1);
    no(12, "program(2,4,2)", x, x.program(2, 4, 2), 1);
    no(12, "program(2,3,2)", x, x.program(2, 3, 2), 2);
    no(12, "program(-1,3,2)", x, x.program(-1, 3, 2), 2);
    ask(12, "program(0,15,4)", x, x.program(0, 15, 4), 4, 0);
  }

  private static void sticksAndFrees() {
    HornBraider x = of("size 2 4;");
    ask(13, "stick(0,2)", x, x.stick(0, 2), 0, 0);
    no(13, "stick(0,2) again", x, x.stick(0, 2), 4);
    ask(13, "gate(0,1)", x, x.gate(0, 1), 1, 0);
    ask(13, "stick(0,1)", x, x.stick(0, 1), 2, 0);
    ask(13, "stick(0,0)", x, x.stick(0, 0), 1, 0);
    no(13, "stick(1,0)", x, x.stick(1, 0), 4);
    no(13, "stick(1,3)", x, x.stick(1, 3), 1);
    no(13, "stick(10,-1)", x, x.stick(10, -1), 1);
    no(13, "stick(10,1)", x, x.stick(10, 1), 2);
    no(13, "stick(-1,1)", x, x.stick(-1, 1), 2);
    for (int s = 0; s < 6; s++) {
      ask(14, "free(" + s + ",true)", x, x.free(s, true), s + 1, 0);
    }
    no(14, "free(6,true)", x, x.free(6, true), 3);
    no(14, "free(5,true) again", x, x.free(5, true), 4);
    no(14, "free(6,false)", x, x.free(6, false), 4);
    no(14, "free(10,true)", x, x.free(10, true), 2);
    no(14, "free(-1,false)", x, x.free(-1, false), 2);
    ask(14, "free(2,false)", x, x.free(2, false), 5, 0);
    ask(14, "free(6,true)", x, x.free(6, true), 6, 0);
    ask(14, "gate(6,3)", x, x.gate(6, 3), 1, 0);
    ask(14, "gate(2,3)", x, x.gate(2, 3), 0, 0);
  }

  private static void putsAndTakes() {
    HornBraider x = of("size 2 5;");
    for (int i = 0; i < 8; i++) {
      ask(15, "put(" + (4 * i) + ")", x, x.put(4 * i), i, 0);
    }
    no(15, "put(1), a ninth", x, x.put(1), 3);
    no(15, "put(0), a ninth", x, x.put(0), 3);
    no(15, "put(40)", x, x.put(40), 2);
    no(15, "put(-1)", x, x.put(-1), 2);
    ask(16, "take(7)", x, x.take(7), 7, 0);
    no(15, "put(0), it is taken", x, x.put(0), 4);
    no(15, "put(2), it faces 20", x, x.put(2), 4);
    ask(15, "put(1)", x, x.put(1), 7, 0);
    x.take(7);
    x.wish(2, 9);
    x.wish(3, 11);
    x.seen(1, 5, 6);
    x.seen(2, 6, 7);
    x.seen(3, 7, 8);
    no(16, "take(7)", x, x.take(7), 2);
    no(16, "take(-1)", x, x.take(-1), 2);
    ask(16, "take(2)", x, x.take(2), 6, 0);
    ask(16, "many(10)", x, x.many(10), 2, 0);
    ask(16, "bobbin(1,3)", x, x.bobbin(1, 3), 4, 0);
    ask(16, "bobbin(2,3)", x, x.bobbin(2, 3), 12, 0);
    ask(16, "bobbin(2,0)", x, x.bobbin(2, 0), 12, 0);
    ask(16, "bobbin(2,5)", x, x.bobbin(2, 5), 11, 0);
    ask(16, "bobbin(1,5)", x, x.bobbin(1, 5), NONE, 0);
    no(16, "at(8)", x, x.at(8), 5);
    HornBraider y = of("size 1 2;bobbin 0;");
    y.step(1);
    no(15, "put(4)", y, y.put(4), 7);
    no(15, "put(0) as T is 1", y, y.put(0), 4);
    no(15, "put(8) as T is 1", y, y.put(8), 2);
    no(16, "take(0) as T is 1", y, y.take(0), 7);
    no(16, "take(1) as T is 1", y, y.take(1), 2);
    y.reset();
    ask(15, "put(4)", y, y.put(4), 1, 0);
    ask(16, "take(0)", y, y.take(0), 1, 0);
    ask(16, "bobbin(0,0)", y, y.bobbin(0, 0), 4, 0);
    // what was seen goes with its bobbin's new number
    HornBraider z = of("size 1 2;bobbin 2;bobbin 0;");
    z.seen(1, 1, 7);
    z.take(0);
    ask(16, "named(0,0) behind take", z, z.named(0, 0), 1, 0);
  }

  private static void wishes() {
    HornBraider x = of("size 1 2;bobbin 0;");
    no(17, "wish(0,-1)", x, x.wish(0, -1), 4);
    ask(17, "wish(0,7)", x, x.wish(0, 7), NONE, 0);
    no(17, "wish(0,7) again", x, x.wish(0, 7), 4);
    ask(17, "wish(0,0)", x, x.wish(0, 0), 7, 0);
    no(17, "wish(0,8)", x, x.wish(0, 8), 2);
    no(17, "wish(1,0)", x, x.wish(1, 0), 2);
    no(17, "wish(-1,0)", x, x.wish(-1, 0), 2);
    no(17, "wish(1,-2)", x, x.wish(1, -2), 1);
    ask(17, "wish(0,-1)", x, x.wish(0, -1), 0, 0);
    ask(17, "bobbin(0,5)", x, x.bobbin(0, 5), NONE, 0);
  }

  private static void steps() {
    HornBraider x = of("size 1 2;switch 0 1;bobbin 0;bobbin 5;");
    int[] zero = {7, 6, 5, 4, 1, 2, 3, 0};
    int[] one = {4, 1, 2, 3, 0, 7, 6, 5};
    for (int t = 0; t < 8; t++) {
      ask(18, "step(1)", x, x.step(1), 1, 0);
      ask(18, "bobbin(0,0) behind " + (t + 1), x, x.bobbin(0, 0), zero[t], 0);
      ask(18, "bobbin(1,0) behind " + (t + 1), x, x.bobbin(1, 0), one[t], 0);
    }
    ask(18, "step(100)", x, x.step(100), 100, 0);
    ask(18, "many(5)", x, x.many(5), 108, 0);
    no(18, "step(0)", x, x.step(0), 1);
    no(18, "step(101)", x, x.step(101), 1);
    no(18, "step(-1)", x, x.step(-1), 1);
    // behind one step 0 and 4 would come to the switch together: that they meet though it is shut
    HornBraider w = of("size 1 2;bobbin 3;bobbin 5;");
    ask(18, "step(9), one can be", w, w.step(9), 1, 0);
    ask(18, "many(5)", w, w.many(5), 1, 0);
    no(18, "step(9), none can be", w, w.step(9), 6);
    ask(18, "bobbin(0,0)", w, w.bobbin(0, 0), 0, 0);
    // two on one wheel: two letters of four steps, each turn one more -1
    HornBraider v = of("size 1 1;bobbin 0;bobbin 2;");
    ask(18, "step(1)", v, v.step(1), 1, 0);
    ask(18, "many(6)", v, v.many(6), 1, 0);
    ask(18, "letter(0)", v, v.letter(0), -1, 0);
    v.step(1);
    ask(18, "many(6)", v, v.many(6), 1, 0);
    int done = 2;
    for (int i = 0; i < 6; i++) {
      done += Math.max(v.step(100), 0);
    }
    ask(18, "many(6) full", v, v.many(6), 300, 0);
    ask(18, "many(5) full", v, v.many(5), done, 0);
    no(18, "step(1), the word is full", v, v.step(1), 3);
    ask(18, "many(5) still", v, v.many(5), done, 0);
    v.cut();
    ask(18, "step(1) behind cut", v, v.step(1), 1, 0);
  }

  private static void resetsAndCuts() {
    HornBraider x = of("size 1 1;bobbin 0;bobbin 2;");
    ask(19, "reset()", x, x.reset(), 0, 0);
    x.step(3);
    ask(19, "many(6)", x, x.many(6), 2, 0);
    ask(19, "reset()", x, x.reset(), 3, 0);
    ask(19, "many(5)", x, x.many(5), 0, 0);
    ask(19, "many(6)", x, x.many(6), 0, 0);
    ask(19, "bobbin(0,0)", x, x.bobbin(0, 0), 0, 0);
    ask(19, "bobbin(1,4)", x, x.bobbin(1, 4), 1, 0);
    x.step(3);
    ask(20, "cut()", x, x.cut(), 2, 0);
    ask(20, "cut()", x, x.cut(), 0, 0);
    ask(20, "many(6)", x, x.many(6), 0, 0);
    ask(20, "many(5)", x, x.many(5), 3, 0);
    ask(20, "bobbin(0,0)", x, x.bobbin(0, 0), 3, 0);
    no(20, "letter(0)", x, x.letter(0), 5);
  }

  private static void printed(String text, String due) {
    HornBraider x = of(text);
    ask(21, "print()", x, x.print(), due.length(), 0);
    String got = outText(x, due.length());
    same(21, "print()", got, due);
    no(22, "out(end)", x, x.out(due.length()), 5);
    no(22, "out(-1)", x, x.out(-1), 1);
    ask(22, "out(0)", x, x.out(0), 's', 0);
  }

  private static void prints() {
    printed("size 1 1;", "size 1 1;");
    printed("size 002 3 ;\nword;free 6; free 01;stuck 5 open ;stuck 0 shut;switch 6 0 0;switch 2 1;switch 1 0;"
        + "bobbin 12;bobbin 1;place 1 19;place 0 3;word 1-2 - 3 4;",
        "size 2 3;switch 2 1;switch 6 0 0;bobbin 12;bobbin 1;stuck 0 shut;stuck 5 open;free 1;free 6;"
        + "place 0 3;place 1 19;word 1 - 2 - 3 4;");
    printed("size 1 2;word;", "size 1 2;word;");
    HornBraider x = of("size 4 5;");
    ask(21, "print()", x, x.print(), 9, 0);
    for (int s = 0; s < 31; s++) {
      x.program(s, 8, 4);
    }
    // 10 of "switch 0 0 0 0 1;", 21 of one byte more
    ask(21, "print()", x, x.print(), 9 + 10 * 17 + 21 * 18, 0);
    ask(22, "out(15)", x, x.out(15), ' ', 0);
    for (int s = 0; s < 24; s++) {
      x.stick(s, 1);
    }
    // 557 so far, 10 of "stuck 0 shut;" and 14 of one byte more: 883
    ask(21, "print()", x, x.print(), 883, 0);
    x.free(0, true);
    x.free(1, true);
    // "free 0;free 1;"
    ask(21, "print()", x, x.print(), 897, 0);
    x.program(0, 0, 2);
    x.free(2, true);
    // 4 less for "switch 0 0 0;", 7 more
    ask(21, "print() of 900", x, x.print(), 900, 0);
    ask(22, "out(899)", x, x.out(899), ';', 0);
    x.program(0, 1, 3);
    no(21, "print() of more than 900", x, x.print(), 3);
    ask(22, "out(899), as it was", x, x.out(899), ';', 0);
    ask(22, "out(18)", x, x.out(18), '0', 0);
  }

  private static void maps() {
    HornBraider x = of("size 1 2;switch 0 1 0 0;");
    int[] shut = {1, 2, 3, 0, 7, 4, 5, 6};
    for (int slot = 0; slot < 8; slot++) {
      int open = slot == 0 ? 7 : slot == 4 ? 1 : shut[slot];
      ask(23, "map(0," + slot + ")", x, x.map(0, slot), open, 0);
      ask(23, "map(1," + slot + ")", x, x.map(1, slot), shut[slot], 0);
      ask(23, "map(2," + slot + ")", x, x.map(2, slot), shut[slot], 0);
      ask(23, "map(999999," + slot + ")", x, x.map(999999, slot), open, 0);
      ask(23, "map(1000000," + slot + ")", x, x.map(1000000, slot), shut[slot], 0);
      ask(25, "round(" + slot + ")", x, x.round(slot), new int[] {5, 0, 1, 2, 3, 6, 7, 4}[slot], 0);
    }
    no(23, "map(-1,0)", x, x.map(-1, 0), 1);
    no(23, "map(1000001,8)", x, x.map(1000001, 8), 1);
    no(23, "map(0,8)", x, x.map(0, 8), 2);
    no(23, "map(0,-1)", x, x.map(0, -1), 2);
    ask(24, "ride(0,0,0)", x, x.ride(0, 0, 0), 0, 0);
    ask(24, "ride(0,0,1)", x, x.ride(0, 0, 1), 7, 0);
    ask(24, "ride(0,1,1)", x, x.ride(0, 1, 1), 1, 0);
    ask(24, "ride(0,0,3)", x, x.ride(0, 0, 3), 5, 0);
    ask(24, "ride(0,0,4)", x, x.ride(0, 0, 4), 4, 0);
    int here = 0;
    for (int i = 0; i < 10000; i++) {
      boolean open = (1000000 + i) % 3 == 0;
      here = here == 0 && open ? 7 : here == 4 && open ? 1 : shut[here];
    }
    ask(24, "ride(0,1000000,10000)", x, x.ride(0, 1000000, 10000), here, 0);
    no(24, "ride(0,1000001,0)", x, x.ride(0, 1000001, 0), 1);
    no(24, "ride(0,-1,0)", x, x.ride(0, -1, 0), 1);
    no(24, "ride(0,0,10001)", x, x.ride(0, 0, 10001), 1);
    no(24, "ride(8,0,-1)", x, x.ride(8, 0, -1), 1);
    no(24, "ride(8,0,1)", x, x.ride(8, 0, 1), 2);
    no(24, "ride(-1,0,1)", x, x.ride(-1, 0, 1), 2);
    no(25, "round(8)", x, x.round(8), 2);
    no(25, "round(-1)", x, x.round(-1), 2);
    x.stick(0, 2);
    ask(23, "map(1,0) stuck open", x, x.map(1, 0), 7, 0);
    x.stick(0, 1);
    ask(23, "map(0,0) stuck shut", x, x.map(0, 0), 1, 0);
    HornBraider y = of("size 2 1;switch 0 1;");
    ask(23, "map over a switch between rows", y, y.map(0, 1), 4, 0);
    ask(23, "map back", y, y.map(0, 5), 2, 0);
    x = of("size 1 3;switch 0 1;switch 1 0 1;");
    ask(25, "round(0)", x, x.round(0), 6, 0);
  }

  private static void tracks() {
    // rounds of 1 0 0: 0 to 5, 6, 7, 4, 3, 2, 1, 0
    HornBraider x = of("size 1 2;switch 0 1 0 0;bobbin 3;bobbin 5;");
    ask(26, "track(5,0)", x, x.track(5, 0), 8, 0);
    ask(26, "track(5,1)", x, x.track(5, 1), 0, 0);
    ask(26, "track(5,2)", x, x.track(5, 2), 2, 0);
    ask(27, "tracks(0)", x, x.tracks(0), 1, 0);
    // a shut one: two wheels for themselves
    HornBraider y = of("size 1 2;switch 0 0;bobbin 3;bobbin 4;bobbin 6;");
    ask(26, "track(1,0)", y, y.track(1, 0), 4, 0);
    ask(26, "track(7,1)", y, y.track(7, 1), 4, 0);
    ask(26, "track(7,2)", y, y.track(7, 2), 2, 0);
    ask(26, "track(0,2)", y, y.track(0, 2), 1, 0);
    y.step(1);
    ask(26, "track(7,2) of starts", y, y.track(7, 2), 2, 0);
    no(26, "track(0,3)", y, y.track(0, 3), 1);
    no(26, "track(8,-1)", y, y.track(8, -1), 1);
    no(26, "track(8,0)", y, y.track(8, 0), 2);
    no(26, "track(-1,0)", y, y.track(-1, 0), 2);
    ask(27, "tracks(0)", y, y.tracks(0), 2, 0);
    ask(27, "tracks(1)", y, y.tracks(1), 4, 0);
    ask(27, "tracks(2)", y, y.tracks(2), 4, 0);
    no(27, "tracks(3)", y, y.tracks(3), 1);
    no(27, "tracks(-1)", y, y.tracks(-1), 1);
    ask(28, "ofLength(4)", y, y.ofLength(4), 2, 0);
    ask(28, "ofLength(8)", y, y.ofLength(8), 0, 0);
    no(28, "ofLength(0)", y, y.ofLength(0), 1);
    no(28, "ofLength(-3)", y, y.ofLength(-3), 1);
    // a period of 4 brings every slot of a wheel of its own round at once
    y.program(0, 0, 4);
    ask(27, "tracks(0) of period 4", y, y.tracks(0), 8, 0);
    ask(27, "tracks(1) of period 4", y, y.tracks(1), 1, 0);
    ask(27, "tracks(2) of period 4", y, y.tracks(2), 1, 0);
    ask(28, "ofLength(1)", y, y.ofLength(1), 8, 0);
    // three wheels: 8 slots on one track, 4 on the other
    HornBraider z = of("size 1 3;switch 0 1;");
    ask(27, "tracks(0)", z, z.tracks(0), 2, 0);
    ask(27, "tracks(1)", z, z.tracks(1), 8, 0);
    ask(27, "tracks(2)", z, z.tracks(2), 8, 0);
    ask(28, "ofLength(8)", z, z.ofLength(8), 1, 0);
    ask(26, "track(7,1)", z, z.track(7, 1), 0, 0);
    ask(26, "track(11,1)", z, z.track(11, 1), 8, 0);
  }

  private static void meetings() {
    HornBraider x = of("size 1 2;");
    // 0 and 4 turn to the switch at once; 3 and 5 one step later
    ask(29, "meets(0,4,0)", x, x.meets(0, 4, 0), 0, 0);
    ask(29, "meets(3,5,0)", x, x.meets(3, 5, 0), 1, 0);
    ask(29, "meets(5,3,1)", x, x.meets(5, 3, 1), 0, 0);
    ask(29, "meets(2,6,0)", x, x.meets(2, 6, 0), 2, 0);
    no(29, "meets(0,5,0)", x, x.meets(0, 5, 0), 5);
    no(29, "meets(0,2,0)", x, x.meets(0, 2, 0), 5);
    no(29, "meets(1,7,0)", x, x.meets(1, 7, 0), 4);
    no(29, "meets(7,1,1)", x, x.meets(7, 1, 1), 4);
    no(29, "meets(3,3,0)", x, x.meets(3, 3, 0), 4);
    no(29, "meets(0,8,0)", x, x.meets(0, 8, 0), 2);
    no(29, "meets(-1,0,0)", x, x.meets(-1, 0, 0), 2);
    no(29, "meets(8,8,2)", x, x.meets(8, 8, 2), 1);
    no(29, "meets(0,4,-1)", x, x.meets(0, 4, -1), 1);
    HornBraider y = of("size 2 2;");
    ask(29, "meets(1,9,0)", y, y.meets(1, 9, 0), 0, 0);
    ask(29, "meets(1,9,1)", y, y.meets(1, 9, 1), 2, 0);
    no(29, "meets(5,15,0)", y, y.meets(5, 15, 0), 5);
    ask(29, "meets(5,13,0)", y, y.meets(5, 13, 0), 2, 0);
    ask(29, "meets(5,13,1)", y, y.meets(5, 13, 1), 3, 0);
    // it is told of STEP 0, whatever T is, and it goes over switches that are open
    HornBraider z = of("size 1 3;switch 0 1;switch 1 0;");
    z.step(3);
    // 0 goes over to 7, then 6, and comes to 5 at step 2; 9 goes to 10, 11 (step 1), and 8 comes to 11 at step 2
    ask(29, "meets(0,8,0)", z, z.meets(0, 8, 0), 2, 0);
    ask(29, "meets(0,8,1)", z, z.meets(0, 8, 1), 1, 0);
  }

  private static void crashes() {
    HornBraider x = of("size 1 2;bobbin 5;bobbin 2;");
    no(30, "crash(0)", x, x.crash(0), 5);
    HornBraider y = of("size 1 2;bobbin 1;bobbin 6;bobbin 2;");
    // 2 and 6 come to the switch at step 2
    ask(30, "crash(0)", y, y.crash(0), 2, 0);
    ask(30, "crash(1)", y, y.crash(1), 0, 0);
    ask(30, "crash(2)", y, y.crash(2), 1, 0);
    ask(30, "crash(3)", y, y.crash(3), 2, 0);
    ask(30, "step(5)", y, y.step(5), 2, 0);
    ask(30, "crash(0)", y, y.crash(0), 0, 0);
    ask(30, "crash(3)", y, y.crash(3), 2, 0);
    no(30, "crash(4)", y, y.crash(4), 1);
    no(30, "crash(-1)", y, y.crash(-1), 1);
    // behind one step two meetings at once: at switch 0 of bobbins 1 and 2, at switch 1 of 0 and 3
    HornBraider z = of("size 2 2;bobbin 11;bobbin 5;bobbin 3;bobbin 13;");
    ask(30, "crash(0) of two", z, z.crash(0), 1, 0);
    ask(30, "crash(1) of two", z, z.crash(1), 0, 0);
    ask(30, "crash(2) of two", z, z.crash(2), 1, 0);
    ask(30, "crash(3) of two", z, z.crash(3), 2, 0);
    no(30, "crash(0) of one", z = of("size 2 2;bobbin 11;"), z.crash(0), 5);
    // from now on: the switch is open at every second step
    HornBraider w = of("size 1 2;switch 0 1 0;bobbin 0;bobbin 3;");
    int first = w.crash(0);
    int steps = w.step(100);
    plain(30, "crash(0) tells how many steps can be", first == NONE ? 100 : first, steps);
  }

  private static void repeats() {
    HornBraider x = of("size 1 2;");
    no(31, "repeat()", x, x.repeat(), 5);
    x.put(0);
    ask(31, "repeat()", x, x.repeat(), 4, 0);
    x.program(0, 0, 3);
    ask(31, "repeat() of period 3", x, x.repeat(), 12, 0);
    x.program(0, 0, 4);
    ask(31, "repeat() of period 4", x, x.repeat(), 4, 0);
    x.program(0, 1, 1);
    ask(31, "repeat() on eight", x, x.repeat(), 8, 0);
    x.program(0, 1, 3);
    ask(31, "repeat() of rounds of 3", x, x.repeat(), 24, 0);
    x.step(5);
    ask(31, "repeat() behind 5", x, x.repeat(), 24, 0);
  }

  private static void laidOnes() {
    HornBraider x = new HornBraider();
    for (int k = 0; k < 4; k++) {
      ask(32, "laid(" + k + ")", x, x.laid(k), k, 0);
    }
    no(32, "laid(4)", x, x.laid(4), 5);
    no(32, "laid(-1)", x, x.laid(-1), 1);
    // two wheels, shut: 0 to 3 on the one, then each on the other meets one of them
    HornBraider y = of("size 1 2;");
    ask(32, "laid(3)", y, y.laid(3), 3, 0);
    no(32, "laid(4)", y, y.laid(4), 5);
    // wheels that are corner to corner never meet
    HornBraider z = of("size 2 2;");
    ask(32, "laid(4)", z, z.laid(4), 12, 0);
    ask(32, "laid(7)", z, z.laid(7), 15, 0);
    no(32, "laid(8)", z, z.laid(8), 5);
    HornBraider w = of("size 4 5;");
    ask(32, "laid(7), of eight", w, w.laid(7), 11, 0);
    no(32, "laid(8), of eight", w, w.laid(8), 5);
  }

  private static void letters() {
    HornBraider x = of("size 1 2;switch 0 1;bobbin 0;bobbin 5;word 1 - 7;");
    no(33, "letter(0)", x, x.letter(0), 5);
    x.step(2);
    ask(33, "letter(0)", x, x.letter(0), 1, 0);
    no(33, "letter(1)", x, x.letter(1), 5);
    x.step(6);
    ask(33, "letter(1)", x, x.letter(1), -1, 0);
    ask(33, "many(6)", x, x.many(6), 2, 0);
    no(33, "letter(-1)", x, x.letter(-1), 1);
    ask(34, "wished(0)", x, x.wished(0), 1, 0);
    ask(34, "wished(1)", x, x.wished(1), -7, 0);
    no(34, "wished(2)", x, x.wished(2), 5);
    no(34, "wished(-1)", x, x.wished(-1), 1);
    // four on a wheel: 3 left, 0 and 2 in the midst, 1 right; the upper ones go behind to the right
    HornBraider y = of("size 1 1;bobbin 0;bobbin 1;bobbin 2;bobbin 3;");
    ask(33, "step(1)", y, y.step(1), 1, 0);
    int[] due = {-2, -1, -3};
    for (int k = 0; k < due.length; k++) {
      ask(33, "letter(" + k + ")", y, y.letter(k), due[k], 0);
    }
    no(33, "letter(3)", y, y.letter(3), 5);
    // three on a wheel: a full twist in four steps
    HornBraider z = of("size 1 1;bobbin 0;bobbin 1;bobbin 2;");
    z.step(4);
    int[] twist = {-1, -2, -1, -2, -1, -2};
    for (int k = 0; k < twist.length; k++) {
      ask(33, "letter(" + k + ") of a twist", z, z.letter(k), twist[k], 0);
    }
    ask(33, "many(6)", z, z.many(6), 6, 0);
  }

  /** braid() of 0 to 6 on one wheel with bobbins from slot 0 on, behind some steps. */
  private static void braided(int bobbins, int steps, String word, int... due) {
    StringBuilder text = new StringBuilder("size 1 1;");
    for (int b = 0; b < bobbins; b++) {
      text.append("bobbin ").append(b).append(";");
    }
    HornBraider x = of(text.append(word).toString());
    if (steps > 0) {
      x.step(steps);
    }
    for (int what = 0; what < due.length; what++) {
      ask(35, "braid(" + what + ") of " + bobbins + " behind " + steps + " with " + word, x, x.braid(what), due[what], 0);
    }
  }

  private static void braids() {
    braided(3, 0, "word;", 0, 3, 1, 1, 1, 1, 1);
    braided(3, 0, "word 1 - 1;", 0, 3, 1, 1, 1, 1, 1);
    braided(0, 3, "word;", 0, 0, 1, 1, 1, 1, 1);
    // - 1 - 2
    braided(3, 1, "word - 1 - 2;", -2, 1, 0, 1, 0, 0, 1);
    braided(3, 1, "word 1;", -2, 1, 0, 0, 0, 0, 0);
    braided(3, 1, "word 2 - 2 - 1 1 - 1 - 2;", -2, 1, 0, 1, 0, 0, 1);
    braided(3, 1, "word - 2 - 1;", -2, 1, 0, 0, 0, 0, 0);
    // - 1 - 2 - 1
    braided(3, 2, "word - 2 - 1 - 2;", -3, 2, 0, 1, 0, 1, 1);
    braided(3, 2, "word 2 1 2;", -3, 2, 0, 0, 0, 1, 1);
    braided(3, 2, "word - 2 - 1 2;", -3, 2, 0, 0, 0, 1, 0);
    // a full twist goes along with all
    braided(3, 4, "word - 1 - 1 - 2 - 1 - 1 - 2;", -6, 3, 0, 1, 0, 1, 1);
    braided(3, 4, "word 1 - 2;", -6, 3, 0, 0, 0, 1, 1);
    // - 2 - 1 - 3: letters that are 2 apart change places
    braided(4, 1, "word - 2 - 3 - 1;", -3, 1, 0, 1, 0, 0, 1);
    braided(4, 1, "word - 1 - 2 - 3;", -3, 1, 0, 0, 0, 0, 0);
    // a letter that three threads don't have
    braided(3, 0, "word 3 - 3;", 0, 3, 1, 0, 1, 1, 0);
    braided(1, 5, "word 1;", 0, 1, 1, 0, 1, 1, 0);
    // 1, then - 1
    HornBraider x = of("size 1 2;switch 0 1;bobbin 0;bobbin 5;word;");
    x.step(2);
    ask(35, "braid(0)", x, x.braid(0), 1, 0);
    ask(35, "braid(1)", x, x.braid(1), 1, 0);
    ask(35, "braid(2)", x, x.braid(2), 0, 0);
    x.step(6);
    ask(35, "braid(0)", x, x.braid(0), 0, 0);
    ask(35, "braid(1)", x, x.braid(1), 2, 0);
    ask(35, "braid(2)", x, x.braid(2), 1, 0);
    ask(35, "braid(3)", x, x.braid(3), 1, 0);
    ask(35, "braid(4)", x, x.braid(4), 1, 0);
    no(35, "braid(7)", x, x.braid(7), 1);
    no(35, "braid(-1)", x, x.braid(-1), 1);
    HornBraider y = of("size 1 1;bobbin 0;");
    no(35, "braid(3), none is wished", y, y.braid(3), 5);
    no(35, "braid(6), none is wished", y, y.braid(6), 5);
    ask(35, "braid(2)", y, y.braid(2), 1, 0);
  }

  /** 300 letters of the flat braid, - 1 2 again and again, whose coordinates outgrow a long. */
  private static void longBraid(String word, int wishedOne, int eitherWay) {
    HornBraider x = of("size 1 2;switch 0 1;bobbin 0;bobbin 1;bobbin 5;word" + word + ";");
    for (int i = 0; i < 4; i++) {
      x.step(100);
    }
    ask(35, "many(6)", x, x.many(6), 300, 0);
    int[] due = {0, 3, 0, wishedOne, 0, 0, eitherWay};
    for (int what = 0; what < due.length; what++) {
      ask(35, "braid(" + what + ") of 300 letters with" + word, x, x.braid(what), due[what], 0);
    }
    for (int n = 1; n <= 4; n++) {
      ask(39, "times(" + n + ") of 300 letters with" + word, x, x.times(n), 0, 0);
    }
  }

  private static void longBraids() {
    longBraid(" - 1 2", 0, 1);
    // the empty braid; - 1 2 said otherwise; 1 - 2 said otherwise
    longBraid(" - 2 - 1 2 1 2 - 1 - 1 1", 0, 1);
    longBraid(" 2 1 - 2 - 1", 0, 1);
    longBraid(" - 2 - 1 2 1", 0, 0);
    longBraid(" - 1 - 2", 0, 0);
    longBraid(repeated(" - 1 2", 30), 0, 1);
    longBraid(repeated(" - 1 2", 29) + " 2 - 1", 0, 0);
    longBraid(repeated(" 1 2", 3), 0, 1);
    HornBraider x = of("size 1 2;switch 0 1;bobbin 0;bobbin 1;bobbin 5;word" + repeated(" - 1 2", 23) + " 2 1 - 2 - 1;");
    x.step(16);
    ask(39, "many(6)", x, x.many(6), 12, 0);
    for (int n = 1; n <= 4; n++) {
      ask(39, "times(" + n + ") of the flat braid", x, x.times(n), n == 4 ? 1 : 0, 0);
    }
  }

  private static void threads() {
    HornBraider x = of("size 1 1;bobbin 0;bobbin 1;bobbin 2;");
    ask(36, "ends(1) of the empty word", x, x.ends(1), 1, 0);
    ask(38, "thread(1,2) of the empty word", x, x.thread(1, 2), 1, 0);
    // - 1 - 2 - 1
    x.step(2);
    int[] end = {3, 2, 1};
    int[][] part = {{2, 0, 3, 1}, {2, 1, 2, 1}, {2, 2, 3, 1}};
    for (int place = 1; place <= 3; place++) {
      ask(36, "ends(" + place + ")", x, x.ends(place), end[place - 1], 0);
      for (int what = 0; what < 4; what++) {
        ask(38, "thread(" + place + "," + what + ")", x, x.thread(place, what), part[place - 1][what], 0);
      }
      for (int other = 1; other <= 3; other++) {
        ask(37, "pair(" + place + "," + other + ")", x, x.pair(place, other), -1, place == other ? 4 : 0);
      }
    }
    x.step(2);
    ask(36, "ends(1) of a twist", x, x.ends(1), 1, 0);
    ask(37, "pair(3,1) of a twist", x, x.pair(3, 1), -2, 0);
    ask(38, "thread(2,0) of a twist", x, x.thread(2, 0), 4, 0);
    ask(38, "thread(2,1) of a twist", x, x.thread(2, 1), 2, 0);
    no(36, "ends(0)", x, x.ends(0), 1);
    no(36, "ends(4)", x, x.ends(4), 1);
    no(37, "pair(0,1)", x, x.pair(0, 1), 1);
    no(37, "pair(1,4)", x, x.pair(1, 4), 1);
    no(37, "pair(4,4)", x, x.pair(4, 4), 1);
    no(38, "thread(0,0)", x, x.thread(0, 0), 1);
    no(38, "thread(4,0)", x, x.thread(4, 0), 1);
    no(38, "thread(1,4)", x, x.thread(1, 4), 1);
    no(38, "thread(1,-1)", x, x.thread(1, -1), 1);
    // 1, then - 1
    HornBraider y = of("size 1 2;switch 0 1;bobbin 0;bobbin 5;");
    y.step(2);
    ask(37, "pair(2,1)", y, y.pair(2, 1), 1, 0);
    ask(38, "thread(1,1)", y, y.thread(1, 1), 1, 0);
    ask(38, "thread(2,1)", y, y.thread(2, 1), 0, 0);
    ask(38, "thread(2,3)", y, y.thread(2, 3), 1, 0);
    y.step(6);
    ask(37, "pair(1,2)", y, y.pair(1, 2), 0, 0);
    ask(38, "thread(1,1)", y, y.thread(1, 1), 2, 0);
    ask(38, "thread(2,1)", y, y.thread(2, 1), 0, 0);
  }

  private static void timesOver() {
    HornBraider x = of("size 1 1;bobbin 0;bobbin 2;word - 1 - 1 - 1;");
    x.step(1);
    int[] due = {0, 0, 1, 0};
    for (int n = 1; n <= 4; n++) {
      ask(39, "times(" + n + ")", x, x.times(n), due[n - 1], 0);
    }
    no(39, "times(0)", x, x.times(0), 1);
    no(39, "times(5)", x, x.times(5), 1);
    HornBraider y = of("size 1 1;bobbin 0;bobbin 1;bobbin 2;word" + repeated(" - 2 - 1", 6) + ";");
    y.step(4);
    ask(39, "times(2) of a twist", y, y.times(2), 1, 0);
    ask(39, "times(1) of a twist", y, y.times(1), 0, 0);
    HornBraider z = of("size 1 1;bobbin 0;bobbin 1;bobbin 2;word 3;");
    ask(39, "times(1), a letter that three don't have", z, z.times(1), 0, 0);
    HornBraider w = of("size 1 1;bobbin 0;bobbin 1;bobbin 2;");
    no(39, "times(1), none is wished", w, w.times(1), 5);
    no(39, "times(0), none is wished", w, w.times(0), 1);
    // 300 letters, four times
    HornBraider v = of("size 1 1;bobbin 0;bobbin 2;word;");
    for (int i = 0; i < 7; i++) {
      v.step(100);
    }
    ask(39, "many(6)", v, v.many(6), 300, 0);
    ask(39, "times(4) of 300 letters", v, v.times(4), 0, 0);
    HornBraider u = of("size 1 2;switch 0 1;bobbin 0;bobbin 5;word;");
    for (int i = 0; i < 4; i++) {
      u.step(96);
    }
    ask(39, "times(4) of 96 letters that go", u, u.times(4), 1, 0);
  }

  private static void searches() {
    // setting 0: 1, 2, 3; 1: 7, 6, 5; 2: as 0; 3: 7, 6, 11
    HornBraider x = of("size 1 3;bobbin 0;free 0;free 1;");
    ask(40, "search(3), nothing is wished", x, x.search(3), 0, 0);
    x.wish(0, 11);
    ask(40, "search(3)", x, x.search(3), 3, 0);
    ask(42, "refused(3,2)", x, x.refused(3, 2), 3, 0);
    ask(42, "refused(3,0)", x, x.refused(3, 0), 1, 0);
    ask(42, "refused(3,1)", x, x.refused(3, 1), 0, 0);
    ask(41, "refusal(3,3,0)", x, x.refusal(3, 3, 0), 0, 0);
    ask(41, "refusal(3,1,0)", x, x.refusal(3, 1, 0), 2, 0);
    ask(41, "refusal(3,1,3)", x, x.refusal(3, 1, 3), 0, 0);
    no(41, "refusal(3,1,1)", x, x.refusal(3, 1, 1), 5);
    no(41, "refusal(3,1,2)", x, x.refusal(3, 1, 2), 5);
    no(41, "refusal(3,3,3)", x, x.refusal(3, 3, 3), 5);
    ask(41, "refusal(3,3,4)", x, x.refusal(3, 3, 4), 0, 0);
    no(40, "search(2)", x, x.search(2), 5);
    x.wish(0, 5);
    ask(40, "search(3)", x, x.search(3), 1, 0);
    x.step(2);
    ask(40, "search(3) from the start on", x, x.search(3), 1, 0);
    ask(40, "many(5)", x, x.many(5), 2, 0);
    x.reset();
    x.wish(0, 11);
    x.stick(1, 2);
    ask(40, "search(3) with a stuck one", x, x.search(3), 1, 0);
    ask(42, "refused(3,0) with a stuck one", x, x.refused(3, 0), 2, 0);
    x.free(0, false);
    no(40, "search(3), the other is shut by its program", x, x.search(3), 5);
    x.program(0, 1, 2);
    ask(40, "search(3) by its program", x, x.search(3), 0, 0);
    for (int n : new int[] {0, 65, -1}) {
      no(40, "search(" + n + ")", x, x.search(n), 1);
      no(41, "refusal(" + n + ",0,0)", x, x.refusal(n, 0, 0), 1);
      no(42, "refused(" + n + ",0)", x, x.refused(n, 0), 1);
    }
    no(41, "refusal(1,-1,0)", x, x.refusal(1, -1, 0), 1);
    no(41, "refusal(1,2,0)", x, x.refusal(1, 2, 0), 1);
    no(41, "refusal(1,0,5)", x, x.refusal(1, 0, 5), 1);
    no(41, "refusal(1,0,-1)", x, x.refusal(1, 0, -1), 1);
    no(42, "refused(1,5)", x, x.refused(1, 5), 1);
    no(42, "refused(1,-1)", x, x.refused(1, -1), 1);
    x.wish(0, NONE);
    ask(40, "search(64)", x, x.search(64), 0, 0);
    reasons();
    ofSix();
  }

  private static void reasons() {
    // 3 and 5 meet at step 1 by any setting
    HornBraider x = of("size 1 2;bobbin 5;bobbin 3;free 0;place 0 3;word 1;");
    ask(41, "refusal(1,0,0)", x, x.refusal(1, 0, 0), 2, 0);
    ask(41, "refusal(2,1,0)", x, x.refusal(2, 1, 0), 1, 0);
    ask(41, "refusal(2,1,1)", x, x.refusal(2, 1, 1), 1, 0);
    ask(41, "refusal(2,1,2)", x, x.refusal(2, 1, 2), 0, 0);
    no(41, "refusal(2,1,3)", x, x.refusal(2, 1, 3), 5);
    no(41, "refusal(2,1,4)", x, x.refusal(2, 1, 4), 5);
    ask(42, "refused(2,1)", x, x.refused(2, 1), 2, 0);
    // 6 letters of each step: 300 of 50
    HornBraider y = of("size 2 2;bobbin 0;bobbin 1;bobbin 2;bobbin 3;bobbin 12;bobbin 13;bobbin 14;bobbin 15;");
    ask(41, "refusal(64,0,0)", y, y.refusal(64, 0, 0), 3, 0);
    ask(41, "refusal(50,0,0)", y, y.refusal(50, 0, 0), 0, 0);
    ask(41, "refusal(50,0,4)", y, y.refusal(50, 0, 4), 300, 0);
    ask(41, "refusal(51,0,0)", y, y.refusal(51, 0, 0), 3, 0);
    no(41, "refusal(51,0,4)", y, y.refusal(51, 0, 4), 5);
    no(40, "search(51)", y, y.search(51), 5);
    ask(42, "refused(51,3)", y, y.refused(51, 3), 1, 0);
    y.wish(6, 0);
    ask(41, "refusal(51,0,0), not at its place either", y, y.refusal(51, 0, 0), 2, 0);
    ask(41, "refusal(51,0,3)", y, y.refusal(51, 0, 3), 6, 0);
    no(41, "refusal(51,0,4)", y, y.refusal(51, 0, 4), 5);
    ask(18, "step(100)", y, y.step(100), 50, 0);
    no(18, "step(1)", y, y.step(1), 3);
    // a wished word
    HornBraider z = of("size 1 2;free 0;bobbin 0;bobbin 5;word 1 1 - 1;");
    ask(40, "search(2)", z, z.search(2), 1, 0);
    ask(41, "refusal(2,0,0)", z, z.refusal(2, 0, 0), 4, 0);
    ask(41, "refusal(2,0,4)", z, z.refusal(2, 0, 4), 0, 0);
    ask(42, "refused(2,4)", z, z.refused(2, 4), 1, 0);
    HornBraider w = of("size 1 2;free 0;bobbin 0;word 1 - 1;");
    no(40, "search(1), a letter that one thread doesn't have", w, w.search(1), 5);
    ask(42, "refused(1,4)", w, w.refused(1, 4), 2, 0);
    HornBraider v = of("size 1 2;free 0;word;");
    ask(42, "refused(64,0) without bobbins", v, v.refused(64, 0), 2, 0);
  }

  private static void ofSix() {
    // the free ones are 0 to 3 of the first row, those below the first wheel and below wheel 9
    HornBraider x = of("size 3 5;bobbin 0;free 0;free 1;free 2;free 3;free 12;free 21;");
    ask(42, "refused(9,0) of 64", x, x.refused(9, 0), 64, 0);
    no(41, "refusal(1,64,0)", x, x.refusal(1, 64, 0), 1);
    ask(41, "refusal(1,63,0)", x, x.refusal(1, 63, 0), 0, 0);
    // over 0 at step 0, to 6, over 1 at step 2
    x.wish(0, 11);
    ask(42, "refused(3,0)", x, x.refused(3, 0), 16, 0);
    ask(40, "search(3)", x, x.search(3), 3, 0);
    // shut at 0, then below: switch 12 is that below wheel 0
    ask(40, "gate(12,4)", x, x.gate(12, 4), 2, 0);
    x.wish(0, 20);
    ask(40, "search(2)", x, x.search(2), 16, 0);
    ask(42, "refused(2,0)", x, x.refused(2, 0), 16, 0);
  }

  private static void sightings() {
    HornBraider x = of("size 1 2;bobbin 0;bobbin 5;");
    no(43, "seen(0,-1,0)", x, x.seen(0, -1, 0), 1);
    no(43, "seen(2,65,0)", x, x.seen(2, 65, 0), 1);
    no(43, "seen(2,0,0)", x, x.seen(2, 0, 0), 2);
    no(43, "seen(-1,0,0)", x, x.seen(-1, 0, 0), 2);
    no(43, "seen(0,0,8)", x, x.seen(0, 0, 8), 2);
    no(43, "seen(0,0,-1)", x, x.seen(0, 0, -1), 2);
    for (int i = 1; i <= 12; i++) {
      ask(43, "seen(0,64,0)", x, x.seen(0, 64, 0), i, 0);
    }
    no(43, "seen(0,64,0), a 13th", x, x.seen(0, 64, 0), 3);
    no(43, "seen(0,65,0), a 13th", x, x.seen(0, 65, 0), 1);
    no(43, "seen(2,64,0), a 13th", x, x.seen(2, 64, 0), 2);
    x.step(1);
    x.reset();
    ask(43, "many(10)", x, x.many(10), 12, 0);
    ask(44, "forget()", x, x.forget(), 12, 0);
    ask(44, "many(10)", x, x.many(10), 0, 0);
    ask(44, "forget()", x, x.forget(), 0, 0);
    ask(43, "seen(1,0,5)", x, x.seen(1, 0, 5), 1, 0);
  }

  private static void names() {
    HornBraider x = of("size 1 3;bobbin 0;");
    ask(45, "name(0), nothing seen", x, x.name(0), 0, 0);
    ask(45, "name(1), nothing seen", x, x.name(1), 1, 0);
    no(46, "named(0,0), nothing seen", x, x.named(0, 0), 5);
    // over 0 at step 0, to 6, over 1 at step 2
    x.seen(0, 3, 11);
    ask(45, "name(0)", x, x.name(0), 2, 0);
    ask(45, "name(1)", x, x.name(1), 1, 0);
    ask(46, "named(0,0)", x, x.named(0, 0), 1, 0);
    ask(46, "named(0,1)", x, x.named(0, 1), 3, 0);
    no(46, "named(0,2)", x, x.named(0, 2), 5);
    no(46, "named(1,0)", x, x.named(1, 0), 5);
    no(46, "named(-1,0)", x, x.named(-1, 0), 1);
    no(46, "named(0,-1)", x, x.named(0, -1), 1);
    no(45, "name(2)", x, x.name(2), 1);
    no(45, "name(-1)", x, x.name(-1), 1);
    // those told STUCK and FREE are as their programs tell
    x.stick(0, 2);
    x.free(1, true);
    ask(45, "name(0) with one told stuck", x, x.name(0), 2, 0);
    x.program(0, 1, 1);
    ask(45, "name(0) by its program", x, x.name(0), 1, 0);
    ask(46, "named(0,0)", x, x.named(0, 0), 3, 0);
    x.seen(0, 0, 1);
    no(45, "name(0), it was not at its start", x, x.name(0), 5);
    no(46, "named(0,0), none explains", x, x.named(0, 0), 5);
    // stuck shut
    HornBraider y = of("size 1 2;switch 0 1;bobbin 0;");
    y.seen(0, 1, 1);
    ask(45, "name(0)", y, y.name(0), 1, 0);
    ask(46, "named(0,0)", y, y.named(0, 0), 0, 0);
    // two that would meet ahead of the greatest number
    HornBraider z = of("size 1 2;bobbin 3;bobbin 5;");
    z.seen(0, 1, 0);
    ask(45, "name(0), ahead of the meeting", z, z.name(0), 0, 0);
    z.seen(0, 2, 1);
    no(45, "name(0), behind the meeting", z, z.name(0), 5);
    // it did not go over 0 though that is open, and over 2 though that is shut
    HornBraider w = of("size 2 2;switch 0 1;switch 3 1;bobbin 0;");
    w.seen(0, 1, 1);
    w.seen(0, 2, 8);
    ask(45, "name(0)", w, w.name(0), 2, 0);
    ask(45, "name(1)", w, w.name(1), 1, 0);
    ask(46, "named(0,0)", w, w.named(0, 0), 0, 0);
    ask(46, "named(0,1)", w, w.named(0, 1), 5, 0);
    // from 0 to 15 in five steps: 7, 12, 13, 14, 15 or 1, 8, 11, 10, 15
    HornBraider v = of("size 2 2;bobbin 0;");
    v.seen(0, 5, 15);
    ask(45, "name(0) of two ways", v, v.name(0), 2, 0);
    ask(45, "name(1) of two ways", v, v.name(1), 2, 0);
    int[][] sets = {{1, 7}, {3, 5}};
    for (int i = 0; i < 2; i++) {
      for (int k = 0; k < 2; k++) {
        ask(46, "named(" + i + "," + k + ") of two ways", v, v.named(i, k), sets[i][k], 0);
      }
    }
    no(46, "named(2,0) of two ways", v, v.named(2, 0), 5);
    v.program(2, 1, 1);
    v.program(3, 1, 1);
    ask(45, "name(0) of one each", v, v.name(0), 1, 0);
    ask(45, "name(1) of one each", v, v.name(1), 2, 0);
    ask(46, "named(0,0) of one each", v, v.named(0, 0), 1, 0);
    ask(46, "named(1,0) of one each", v, v.named(1, 0), 3, 0);
  }
}
