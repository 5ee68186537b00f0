/**
 * The boundary cases of a TEXT (part 5 of the document, promises 4 and 5): TOKENS, what can stand where,
 * the last NUMBER that can be and the first that can't, the last of many and one too many, and which
 * FAULT is told where there are several.
 */
public final class TextEdges extends Due {
  /** A text with one of each LINE, TOKEN by TOKEN. */
  private static final String[] TOKENS = {"size", "2", "2", ";", "switch", "0", "1", "0", ";", "bobbin", "3", ";",
    "stuck", "1", "open", ";", "stuck", "2", "shut", ";", "free", "2", ";", "place", "0", "5", ";",
    "word", "-", "1", "2", ";"};

  public static void main(String[] args) {
    signs();
    blanks();
    wordsAndNumbers();
    ends();
    cuts();
    wrongKinds();
    wrongWords();
    wrongLetters();
    sizeNumbers();
    switchNumbers();
    slotNumbers();
    bobbinNumbers();
    letterNumbers();
    starts();
    nineBobbins();
    sevenFree();
    fiveBits();
    letters();
    firstAlong();
    toldTwice();
    longTexts();
    end();
  }

  private static void loads(String text, int slots) {
    HornBraider x = new HornBraider();
    yes(4, "load: " + text, x, loadText(x, text), slots);
    plain(5, "fault(0): " + text, x.fault(0), 0);
    plain(5, "fault(1): " + text, x.fault(1), NONE);
  }

  /** No TOKEN begins with any byte but small letters, digits, - and ; */
  private static void signs() {
    for (int sign = 0; sign < 256; sign++) {
      boolean word = sign >= 'a' && sign <= 'z';
      boolean digit = sign >= '0' && sign <= '9';
      String text = "size 1 1;" + (char) sign;
      if (sign == 10 || sign == 32) {
        loads(text, 4);
      } else {
        fault(text, word || digit || sign == '-' || sign == ';' ? 2 : 1, 9);
      }
      if (!word && !digit && sign != '-' && sign != ';' && sign != 10 && sign != 32) {
        fault((char) sign + "size 1 1;", 1, 0);
        fault("size" + (char) sign + " 1 1;", 1, 4);
        fault("size 1" + (char) sign + "1;", 1, 6);
      }
    }
  }

  private static void blanks() {
    loads("size 1 2;", 8);
    loads("\n \nsize\n1 \n 2\n;\n\n ", 8);
    loads("size1 2;", 8);
    loads("size 1 2;bobbin0;place0 3;stuck0open;free0;switch0 1;word-1 2-3;", 8);
    fault("size 12;", 3, 5);
    fault("si ze 1 2;", 2, 0);
    fault("size 1 2;bob bin 0;", 2, 9);
    fault("size 1 2;stuck 0 op en;", 2, 17);
    fault("size 1 2;word 1 2 3 4 5 6 7 12;", 3, 28);
    fault("\tsize 1 2;", 1, 0);
    fault("size 1 2;\r\n", 1, 9);
  }

  /** NUMBERS of 1 to 3 digits; TOKENS go on as long as they can. */
  private static void wordsAndNumbers() {
    loads("size 01 002;bobbin 007;", 8);
    fault("size 0001 2;", 1, 5);
    fault("size 1 0002;", 1, 7);
    fault("size 1 2;bobbin 0007;", 1, 16);
    fault("size 1 2;bobbin 999;", 3, 16);
    fault("size 1 2;bobbin 1000;", 1, 16);
    fault("size 1 2;bobbin 12345678901234567890;", 1, 16);
    fault("size 1 2;word 4294967297;", 1, 14);
    // a number that can't stand there is no token first
    fault("size 1 2;1000", 1, 9);
    fault("size 1 2;100", 2, 9);
    fault("size 1 2 1000;", 1, 9);
    fault("size 1 2 100;", 2, 9);
    fault("size 1 2;bobbin 1x;", 2, 17);
    fault("size 1 2;bobbinx 1;", 2, 9);
    fault("size 1 2;bobbi 1;", 2, 9);
    fault("sizesize 1 2;", 2, 0);
  }

  private static String join(int count, int changed, String by) {
    StringBuilder text = new StringBuilder();
    for (int i = 0; i < count; i++) {
      text.append(i == changed ? by : TOKENS[i]).append(i + 1 < count ? " " : "");
    }
    return text.toString();
  }

  private static int placeOf(int token) {
    return token == 0 ? 0 : join(token, NONE, "").length() + 1;
  }

  /** The end can't stand but behind the ; of a LINE: its place is the text's length. */
  private static void ends() {
    for (int count = 0; count <= TOKENS.length; count++) {
      String text = join(count, NONE, "");
      if (count > 0 && TOKENS[count - 1].equals(";")) {
        loads(text, 16);
        loads(text + " \n ", 16);
      } else {
        fault(text, 2, text.length());
        fault(text + " \n ", 2, text.length() + 3);
      }
    }
    fault("size", 2, 4);
    fault("size 1 2;word -", 2, 15);
    fault("size 1 2;switch 0 1 1 1 1", 2, 25);
    fault("size 1 2;word" + " 1".repeat(60), 2, 133);
  }

  /** What is on the tape behind n bytes is no part of the text, be it of the same TOKEN. */
  private static void cuts() {
    cut("size 1 23;", 8, 2, 8);
    cut("size 1 2;bobbin 1000;", 19, 3, 16);
    cut("size 1 2;bobbin 1000;", 20, 1, 16);
    cut("size 1 2;bobbin 12;", 17, 2, 17);
    cut("size 1 2;bobbin 1;", 13, 2, 9);
    cut("size 1 2;#", 10, 1, 9);
    HornBraider x = new HornBraider();
    feedText(x, "size 1 2;#");
    yes(4, "load(9) ahead of a sign that begins no token", x, x.load(9), 8);
  }

  private static void cut(String text, int n, int kind, int place) {
    HornBraider x = new HornBraider();
    feedText(x, text);
    no(4, "load(" + n + ") of " + text, x, x.load(n), 9);
    plain(5, "fault(0) of it", x.fault(0), kind);
    plain(5, "fault(1) of it", x.fault(1), place);
  }

  /** Each TOKEN in turn is another kind of TOKEN that can't stand there. */
  private static void wrongKinds() {
    for (int i = 0; i < TOKENS.length; i++) {
      String is = TOKENS[i];
      boolean number = is.charAt(0) >= '0' && is.charAt(0) <= '9';
      boolean inWord = i > 27;
      boolean secondBit = i == 7;
      fault(join(TOKENS.length, i, "ajar"), 2, placeOf(i));
      fault(join(TOKENS.length, i, "0000"), 1, placeOf(i));
      fault(join(TOKENS.length, i, "#"), 1, placeOf(i));
      if (!is.equals(";") && !secondBit && !inWord) {
        fault(join(TOKENS.length, i, ";"), 2, placeOf(i));
      }
      if (!inWord || i == 29) {
        fault(join(TOKENS.length, i, "-"), 2, placeOf(i));
      }
      if (!number && !inWord && i != 8) {
        fault(join(TOKENS.length, i, "1"), 2, placeOf(i));
      }
    }
    // the end of a LINE too soon: what is left can't stand there
    fault(join(TOKENS.length, 7, ";"), 2, placeOf(8));
    fault(join(TOKENS.length, 28, ";"), 2, placeOf(28) + 2);
    fault(join(TOKENS.length, 29, ";"), 2, placeOf(29));
    fault(join(TOKENS.length, 30, ";"), 2, placeOf(31));
    // no ; at all: the next LINE's first WORD can't stand there
    fault(join(TOKENS.length, 8, "1"), 2, placeOf(9));
    fault(join(TOKENS.length, 31, "-"), 2, join(TOKENS.length, NONE, "").length());
  }

  /** A WORD of the language where it can't stand. */
  private static void wrongWords() {
    for (String word : new String[] {"size", "open", "shut", "switches", "s"}) {
      fault("size 1 2;" + word + " 0 1;", 2, 9);
    }
    for (String word : new String[] {"size", "switch", "bobbin", "stuck", "free", "place", "word", "ope", "opens", "shu", "shuts"}) {
      fault("size 1 2;stuck 0 " + word + ";", 2, 17);
    }
    for (String word : new String[] {"switch", "bobbin", "stuck", "free", "place", "word", "open", "Size"}) {
      fault(word + " 1 2;", word.equals("Size") ? 1 : 2, 0);
    }
    fault("size 1 2;switch 0 open;", 2, 18);
    fault("size 1 2;free 0 open;", 2, 16);
    fault("size 1 2;word word;", 2, 14);
  }

  /** A WORD that is one but for one letter, or one letter longer or shorter. */
  private static void wrongLetters() {
    String[][] lines = {{"", "size", " 1 2;"}, {"size 1 2;", "switch", " 0 1;"}, {"size 1 2;", "bobbin", " 0;"},
      {"size 1 2;", "stuck", " 0 open;"}, {"size 1 2;", "free", " 0;"}, {"size 1 2;bobbin 0;", "place", " 0 0;"},
      {"size 1 2;", "word", " 1;"}, {"size 1 2;stuck 0 ", "open", ";"}, {"size 1 2;stuck 0 ", "shut", ";"}};
    for (String[] line : lines) {
      String word = line[1];
      int here = line[0].length();
      loads(line[0] + word + line[2], 8);
      for (int i = 0; i < word.length(); i++) {
        fault(line[0] + word.substring(0, i) + "x" + word.substring(i + 1) + line[2], 2, here);
        fault(line[0] + word.substring(0, i) + word.substring(i + 1) + line[2], 2, here);
        fault(line[0] + word.substring(0, i) + "A" + word.substring(i + 1) + line[2], i == 0 ? 1 : 2, here);
      }
      fault(line[0] + word + "x" + line[2], 2, here);
      fault(line[0] + "x" + word + line[2], 2, here);
    }
  }

  private static void sizeNumbers() {
    loads("size 1 1;", 4);
    loads("size 4 1;", 16);
    loads("size 1 5;", 20);
    loads("size 4 5;", 80);
    fault("size 0 1;", 3, 5);
    fault("size 5 1;", 3, 5);
    fault("size 5 6;", 3, 5);
    fault("size 999 1;", 3, 5);
    fault("size 1 0;", 3, 7);
    fault("size 1 6;", 3, 7);
    fault("size 4 999;", 3, 7);
    fault("size 5", 3, 5);
    fault("size 0 #", 3, 5);
  }

  /** SWITCHES of switch, stuck, free: the last one, one more; with one WHEEL there are none. */
  private static void switchNumbers() {
    String[] lines = {"switch # 1;", "stuck # open;", "stuck # shut;", "free #;"};
    int[][] sizes = {{4, 5, 31}, {1, 2, 1}, {2, 1, 1}, {2, 3, 7}, {1, 1, 0}};
    for (int[] size : sizes) {
      String head = "size " + size[0] + " " + size[1] + ";";
      for (String line : lines) {
        int place = 9 + line.indexOf('#');
        if (size[2] > 0) {
          loads(head + line.replace("#", "0"), 4 * size[0] * size[1]);
          loads(head + line.replace("#", "" + (size[2] - 1)), 4 * size[0] * size[1]);
        }
        fault(head + line.replace("#", "" + size[2]), 3, place);
        fault(head + line.replace("#", "999"), 3, place);
      }
    }
    loads("size 1 2;switch 0 0;switch 0 1;", 8);
    fault("size 1 2;switch 0 2;", 3, 18);
    fault("size 1 2;switch 0 0 2;", 3, 20);
    fault("size 1 2;switch 0 1 1 1 2;", 3, 24);
    fault("size 1 2;switch 0 11;", 3, 18);
  }

  private static void slotNumbers() {
    loads("size 1 1;bobbin 0;bobbin 3;place 0 0;place 1 3;", 4);
    fault("size 1 1;bobbin 4;", 3, 16);
    fault("size 1 1;bobbin 0;place 0 4;", 3, 26);
    loads("size 4 5;bobbin 79;place 0 79;", 80);
    fault("size 4 5;bobbin 80;", 3, 16);
    fault("size 4 5;bobbin 0;place 0 80;", 3, 26);
  }

  /** A BOBBIN of those told so far. */
  private static void bobbinNumbers() {
    fault("size 1 2;place 0 0;", 3, 15);
    loads("size 1 2;bobbin 0;place 0 0;", 8);
    fault("size 1 2;bobbin 0;place 1 0;", 3, 24);
    fault("size 1 2;bobbin 0;place 1 0;bobbin 2;", 3, 24);
    loads("size 1 2;bobbin 0;bobbin 2;place 1 0;", 8);
    String eight = "size 2 2;bobbin 0;bobbin 1;bobbin 2;bobbin 3;bobbin 12;bobbin 13;bobbin 14;bobbin 15;";
    loads(eight + "place 7 0;", 16);
    fault(eight + "place 8 0;", 3, eight.length() + 6);
    fault("size 1 2;bobbin 0;place 1 9;", 3, 24);
  }

  private static void letterNumbers() {
    for (int letter = 1; letter <= 7; letter++) {
      loads("size 1 1;word " + letter + " - " + letter + ";", 4);
    }
    for (int letter : new int[] {0, 8, 99, 999}) {
      fault("size 1 1;word " + letter + ";", 3, 14);
      fault("size 1 1;word - " + letter + ";", 3, 16);
    }
    fault("size 1 1;word 1 7 8;", 3, 18);
    fault("size 1 1;word 00;", 3, 14);
  }

  /** A START in which there is a BOBBIN, or which FACES one. */
  private static void starts() {
    fault("size 1 1;bobbin 0;bobbin 0;", 4, 25);
    fault("size 1 2;bobbin 1;bobbin 7;", 4, 25);
    fault("size 1 2;bobbin 7;bobbin 1;", 4, 25);
    fault("size 2 1;bobbin 2;bobbin 4;", 4, 25);
    fault("size 2 1;bobbin 4;bobbin 2;", 4, 25);
    fault("size 1 2;bobbin 1;bobbin 0;bobbin 7", 4, 34);
    loads("size 1 2;bobbin 1;bobbin 0;bobbin 2;bobbin 3;bobbin 4;bobbin 5;bobbin 6;", 8);
    loads("size 1 1;bobbin 0;bobbin 1;bobbin 2;bobbin 3;", 4);
    // a slot that can't be is told ahead of one that is taken, the wrong sign behind it is not
    fault("size 1 1;bobbin 0;bobbin 4;", 3, 25);
    fault("size 1 1;bobbin 0;bobbin 0 0;", 4, 25);
  }

  private static void nineBobbins() {
    String eight = "size 4 5;bobbin 0;bobbin 2;bobbin 4;bobbin 6;bobbin 8;bobbin 10;bobbin 12;bobbin 14;";
    loads(eight, 80);
    int here = eight.length();
    fault(eight + "bobbin 16;", 6, here);
    fault(eight + "\n bobbin 16;", 6, here + 2);
    // what is wrong in that LINE comes later along the text
    fault(eight + "bobbin 0;", 6, here);
    fault(eight + "bobbin 80;", 6, here);
    fault(eight + "bobbin 1000;", 6, here);
    fault(eight + "bobbin #", 6, here);
    fault(eight + "bobbin", 6, here);
    fault(eight + "bobbins 16;", 2, here);
    loads(eight + "place 7 0;free 0;", 80);
  }

  private static void sevenFree() {
    String six = "size 4 5;free 0;free 1;free 2;free 3;free 4;free 30;";
    loads(six, 80);
    int here = six.length();
    fault(six + "free 5;", 6, here);
    fault(six + " free 5;", 6, here + 1);
    fault(six + "free 30;", 6, here);
    fault(six + "free 31;", 6, here);
    fault(six + "free", 6, here);
    fault(six + "free #", 6, here);
    fault(six + "frees 5;", 2, here);
    // five of which one was told twice are five
    loads("size 4 5;free 0;free 1;free 2;free 3;free 4;free 4;free 5;", 80);
    fault("size 4 5;free 0;free 1;free 2;free 3;free 4;free 4;free 5;free 6;", 6, 58);
  }

  private static void fiveBits() {
    loads("size 1 2;switch 0 1;", 8);
    loads("size 1 2;switch 0 1 0 1 0;", 8);
    fault("size 1 2;switch 0 1 0 1 0 1;", 6, 26);
    fault("size 1 2;switch 0 1 0 1 0 0 1;", 6, 26);
    fault("size 1 2;switch 0 1 0 1 0 1", 6, 26);
    // of one TOKEN the least kind
    fault("size 1 2;switch 0 1 0 1 0 2;", 3, 26);
    fault("size 1 2;switch 0 1 0 1 0 x;", 2, 26);
    fault("size 1 2;switch 0 1 0 1 0 - 1;", 2, 26);
    fault("size 1 2;switch 0 1 0 1 0 0001;", 1, 26);
    fault("size 1 2;switch 0 1 0 1 0", 2, 25);
    fault("size 1 2;switch 0;", 2, 17);
  }

  private static void letters() {
    loads("size 1 1;word;", 4);
    String sixty = "size 1 1;word" + " 1".repeat(60);
    int here = sixty.length();
    loads(sixty + ";", 4);
    loads("size 1 1;word" + " - 7".repeat(60) + ";", 4);
    fault(sixty + " 1;", 6, here + 1);
    fault(sixty + " 1 1;", 6, here + 1);
    fault(sixty + " 1", 6, here + 1);
    fault(sixty + " - 1;", 6, here + 3);
    fault(sixty + " 8;", 3, here + 1);
    fault(sixty + " 0;", 3, here + 1);
    fault(sixty + " - 8;", 3, here + 3);
    fault(sixty + " - ;", 2, here + 3);
    fault(sixty + " - - 1;", 2, here + 3);
    fault(sixty + " x;", 2, here + 1);
    fault(sixty + " 0001;", 1, here + 1);
    fault(sixty + " -", 2, here + 2);
    // a second WORD begins anew
    loads(sixty + ";word" + " 2".repeat(60) + ";", 4);
    fault(sixty + ";word" + " 2".repeat(61) + ";", 6, here + 5 + 121);
  }

  /** The FAULT that stands first along the text is told. */
  private static void firstAlong() {
    fault("size 1 2;bobbin 8;bobbin 0;bobbin 0;#", 3, 16);
    fault("size 1 2;bobbin 0;bobbin 0;bobbin 8;#", 4, 25);
    fault("size 1 2;bobbin #;bobbin 8;", 1, 16);
    fault("size 1 2;bobbin;bobbin 8;#", 2, 15);
    fault("size 1 2;switch 0 1 1 1 1 1;#", 6, 26);
    fault("size 5 6;#", 3, 5);
    fault("size 1 2;word 8 #", 3, 14);
    fault("size 1 2;word # 8", 1, 14);
    fault("size 1 2;place 0 9;", 3, 15);
    fault("size 1 2;stuck 9 ajar;", 3, 15);
    fault("size 1 2;switch 9 9;", 3, 16);
  }

  private static void toldTwice() {
    HornBraider x = new HornBraider();
    yes(4, "told twice", x, loadText(x, "size 1 2;switch 0 1 1 1 1;switch 0 0 1;stuck 0 open;stuck 0 shut;"
        + "free 0;free 0;bobbin 0;bobbin 2;place 0 1;place 1 2;place 0 3;word 1 2 3;word - 4;"), 8);
    yes(4, "its bits", x, x.gate(0, 0), 2);
    yes(4, "bit(0,0)", x, x.bit(0, 0), 0);
    yes(4, "bit(0,1)", x, x.bit(0, 1), 1);
    yes(4, "stuck shut", x, x.gate(0, 2), 1);
    yes(4, "one is free", x, x.many(7), 1);
    yes(4, "two bobbins", x, x.many(4), 2);
    yes(4, "bobbin(0,5)", x, x.bobbin(0, 5), 3);
    yes(4, "bobbin(1,5)", x, x.bobbin(1, 5), 2);
    yes(4, "one letter", x, x.many(11), 1);
    yes(4, "wished(0)", x, x.wished(0), -4);
    yes(4, "an empty word behind another one", x, loadText(x, "size 1 2;word 1 2;word;"), 8);
    yes(4, "no letter", x, x.many(11), 0);
  }

  /** At most 900 bytes: the last of them is read, too. */
  private static void longTexts() {
    String lines = "size 4 5;" + "word 1 - 1;".repeat(81);
    plain(4, "bytes of a full text", lines.length(), 900);
    HornBraider x = new HornBraider();
    yes(4, "a full text", x, loadText(x, lines), 80);
    yes(4, "its word", x, x.many(11), 2);
    fault(lines.substring(0, 899), 2, 899);
    fault(lines.substring(0, 899) + "#", 1, 899);
    fault(lines.substring(0, 899) + "8", 3, 898);
    fault("size 1 1;" + " ".repeat(890) + "#", 1, 899);
    loads("size 1 1;" + " ".repeat(891), 4);
  }
}
