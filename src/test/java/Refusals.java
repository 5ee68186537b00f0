import java.lang.reflect.InvocationTargetException;
import java.lang.reflect.Method;
import java.util.ArrayList;
import java.util.List;
import java.util.function.Consumer;
import java.util.function.Supplier;
import java.util.function.ToIntFunction;

/**
 * Part 6 of the document: with another STATUS than 0 a call gives NONE and changes nothing else (load()
 * with 9: but the tape and what fault() tells). Each refusal is made on one of two machines of one make,
 * and all that can be asked of both is compared. The same for calls that only ask, and for any numbers.
 */
public final class Refusals extends Due {
  public static void main(String[] args) throws ReflectiveOperationException {
    refusals();
    faulty();
    asking();
    anyNumbers();
    end();
  }

  // ---- the machines

  private static String steady() {
    return "size 2 3;switch 0 1 0 0;switch 3 0 1;switch 6 1 1 1 0;stuck 2 shut;stuck 5 open;free 1;free 4;"
        + "bobbin 3;bobbin 9;bobbin 23;place 0 5;place 2 10;word 1 - 2;";
  }

  /** T above 0, a WORD, OUT, a FAULT told, something SEEN, and a text on the tape. */
  private static HornBraider busy() {
    HornBraider x = of(steady());
    x.seen(0, 2, 7);
    x.seen(1, 0, 9);
    x.print();
    x.step(3);
    loadText(x, "size 1 1;free 0;");
    feedText(x, "size 2 1;switch 0 1;");
    return x;
  }

  /** 8 BOBBINS, 6 FREE ones, 12 SEEN, a TEXT that is too long to be printed, OUT from ahead of that. */
  private static HornBraider full() {
    HornBraider x = of("size 4 5;bobbin 0;bobbin 1;bobbin 2;bobbin 3;bobbin 8;bobbin 9;bobbin 10;bobbin 12;word 1;");
    for (int i = 0; i < 12; i++) {
      x.seen(i % 8, i, i);
    }
    for (int s = 0; s < 6; s++) {
      x.free(5 * s, true);
    }
    x.print();
    for (int s = 0; s < 31; s++) {
      x.program(s, s % 16, 4);
      x.stick(s, 1 + s % 2);
    }
    return x;
  }

  /** Two MEET in the next STEP. */
  private static HornBraider meeting() {
    HornBraider x = of("size 1 2;bobbin 2;bobbin 6;bobbin 3;free 0;word 1 1;");
    x.seen(0, 3, 1);
    x.print();
    x.step(100);
    return x;
  }

  /** The WORD is full, and the next STEP has LETTERS. */
  private static HornBraider woven() {
    HornBraider x = of("size 2 2;bobbin 0;bobbin 1;bobbin 2;bobbin 3;bobbin 12;bobbin 14;bobbin 13;bobbin 15;place 3 0;");
    x.step(50);
    return x;
  }

  private static HornBraider fresh() {
    return new HornBraider();
  }

  // ---- all that can be asked

  private static String state(HornBraider x, boolean withTape) {
    List<Integer> all = new ArrayList<>();
    for (int what = 0; what <= 11; what++) {
      all.add(x.many(what));
    }
    int switches = x.many(2);
    int slots = x.many(3);
    int bobbins = x.many(4);
    for (int s = 0; s < switches; s++) {
      // the bits as one number, so that an object is not used for more than 512 calls
      int length = x.gate(s, 0);
      int bits = length;
      for (int k = 0; k < length; k++) {
        bits = 2 * bits + x.bit(s, k);
      }
      all.add(bits);
      all.add(x.gate(s, 2));
      all.add(x.gate(s, 3));
    }
    for (int b = 0; b < bobbins; b++) {
      all.add(x.bobbin(b, 0));
      all.add(x.bobbin(b, 3));
      all.add(x.bobbin(b, 4));
      all.add(x.bobbin(b, 5));
    }
    int letters = x.many(6);
    for (int k = 0; k < letters; k += letters > 20 ? 29 : 1) {
      all.add(x.letter(k));
    }
    all.add(x.wished(0));
    all.add(x.wished(1));
    all.add(x.map(5, slots - 1));
    all.add(x.round(0));
    all.add(x.crash(0));
    all.add(x.search(9));
    all.add(x.name(0));
    all.add(x.name(1));
    all.add(x.named(0, 0));
    all.add(x.named(0, 1));
    for (int i = 0; i < 140; i += 3) {
      all.add(x.out(i));
    }
    all.add(x.fault(0));
    all.add(x.fault(1));
    if (withTape) {
      all.add(x.feed(0x20202020, 0x20202020, 0x20202020, 0x20202020, 0x20202020));
      all.add(x.load(40));
      all.add(x.status());
      all.add(x.many(0));
    }
    return all.toString();
  }

  /** A refusal with its STATUS, and twins that are alike behind it. */
  private static void refused(int promise, String call, Supplier<HornBraider> make, int status, ToIntFunction<HornBraider> run) {
    HornBraider x = make.get();
    no(promise, call, x, run.applyAsInt(x), status);
    no(promise, call + " again", x, run.applyAsInt(x), status);
    HornBraider twin = make.get();
    same(promise, "all behind " + call, state(x, true), state(twin, true));
  }

  private static void refusals() {
    refusedTelling();
    refusedMoving();
    refusedMaps();
    refusedBraid();
    refusedSearch();
  }

  private static void refusedTelling() {
    refused(4, "load(-1)", Refusals::busy, 1, x -> x.load(-1));
    refused(4, "load(21)", Refusals::busy, 1, x -> x.load(21));
    refused(6, "many(12)", Refusals::busy, 1, x -> x.many(12));
    refused(7, "gate(0,6)", Refusals::busy, 1, x -> x.gate(0, 6));
    refused(7, "gate(7,0)", Refusals::busy, 2, x -> x.gate(7, 0));
    refused(8, "bit(0,-1)", Refusals::busy, 1, x -> x.bit(0, -1));
    refused(8, "bit(7,0)", Refusals::busy, 2, x -> x.bit(7, 0));
    refused(8, "bit(0,3)", Refusals::busy, 5, x -> x.bit(0, 3));
    refused(9, "bobbin(0,6)", Refusals::busy, 1, x -> x.bobbin(0, 6));
    refused(9, "bobbin(3,0)", Refusals::busy, 2, x -> x.bobbin(3, 0));
    refused(10, "at(24)", Refusals::busy, 2, x -> x.at(24));
    refused(10, "at(0)", Refusals::busy, 5, x -> x.at(0));
    refused(11, "faces(24)", Refusals::busy, 2, x -> x.faces(24));
    refused(11, "faces(0)", Refusals::busy, 5, x -> x.faces(0));
    refused(12, "program(0,0,5)", Refusals::busy, 1, x -> x.program(0, 0, 5));
    refused(12, "program(0,0,0)", Refusals::busy, 1, x -> x.program(0, 0, 0));
    refused(12, "program(0,-1,3)", Refusals::busy, 1, x -> x.program(0, -1, 3));
    refused(12, "program(0,4,2)", Refusals::busy, 1, x -> x.program(0, 4, 2));
    refused(12, "program(7,0,1)", Refusals::busy, 2, x -> x.program(7, 0, 1));
    refused(12, "program(0,1,3)", Refusals::busy, 4, x -> x.program(0, 1, 3));
    refused(13, "stick(0,3)", Refusals::busy, 1, x -> x.stick(0, 3));
    refused(13, "stick(7,1)", Refusals::busy, 2, x -> x.stick(7, 1));
    refused(13, "stick(2,1)", Refusals::busy, 4, x -> x.stick(2, 1));
    refused(14, "free(7,true)", Refusals::busy, 2, x -> x.free(7, true));
    refused(14, "free(1,true)", Refusals::busy, 4, x -> x.free(1, true));
    refused(14, "free(0,false)", Refusals::busy, 4, x -> x.free(0, false));
    refused(14, "free(1,true) of seven", Refusals::full, 3, x -> x.free(1, true));
    refused(21, "print() of more than 900", Refusals::full, 3, HornBraider::print);
    refused(22, "out(-1)", Refusals::busy, 1, x -> x.out(-1));
    refused(22, "out(900)", Refusals::busy, 5, x -> x.out(900));
    refused(22, "out(0)", Refusals::fresh, 5, x -> x.out(0));
  }

  private static void refusedMoving() {
    refused(15, "put(24)", Refusals::busy, 2, x -> x.put(24));
    refused(15, "put(16) of nine", Refusals::full, 3, x -> x.put(16));
    refused(15, "put(3)", Refusals::busy, 4, x -> x.put(3));
    refused(15, "put(0), T is above 0", Refusals::busy, 7, x -> x.put(0));
    refused(16, "take(3)", Refusals::busy, 2, x -> x.take(3));
    refused(16, "take(0), T is above 0", Refusals::busy, 7, x -> x.take(0));
    refused(17, "wish(0,-2)", Refusals::busy, 1, x -> x.wish(0, -2));
    refused(17, "wish(3,0)", Refusals::busy, 2, x -> x.wish(3, 0));
    refused(17, "wish(0,24)", Refusals::busy, 2, x -> x.wish(0, 24));
    refused(17, "wish(0,5)", Refusals::busy, 4, x -> x.wish(0, 5));
    refused(17, "wish(1,-1)", Refusals::busy, 4, x -> x.wish(1, -1));
    refused(18, "step(0)", Refusals::busy, 1, x -> x.step(0));
    refused(18, "step(101)", Refusals::busy, 1, x -> x.step(101));
    refused(18, "step(1), two meet", Refusals::meeting, 6, x -> x.step(1));
    refused(18, "step(100), two meet", Refusals::meeting, 6, x -> x.step(100));
    refused(18, "step(1), the word is full", Refusals::woven, 3, x -> x.step(1));
    refused(18, "step(100), the word is full", Refusals::woven, 3, x -> x.step(100));
  }

  private static void refusedMaps() {
    refused(23, "map(-1,0)", Refusals::busy, 1, x -> x.map(-1, 0));
    refused(23, "map(0,24)", Refusals::busy, 2, x -> x.map(0, 24));
    refused(24, "ride(0,0,10001)", Refusals::busy, 1, x -> x.ride(0, 0, 10001));
    refused(24, "ride(24,0,0)", Refusals::busy, 2, x -> x.ride(24, 0, 0));
    refused(25, "round(24)", Refusals::busy, 2, x -> x.round(24));
    refused(26, "track(0,3)", Refusals::busy, 1, x -> x.track(0, 3));
    refused(26, "track(24,0)", Refusals::busy, 2, x -> x.track(24, 0));
    refused(27, "tracks(3)", Refusals::busy, 1, x -> x.tracks(3));
    refused(28, "ofLength(0)", Refusals::busy, 1, x -> x.ofLength(0));
    refused(29, "meets(0,1,2)", Refusals::busy, 1, x -> x.meets(0, 1, 2));
    refused(29, "meets(0,24,0)", Refusals::busy, 2, x -> x.meets(0, 24, 0));
    refused(29, "meets(1,7,0)", Refusals::busy, 4, x -> x.meets(1, 7, 0));
    refused(29, "meets(0,1,0)", Refusals::busy, 5, x -> x.meets(0, 1, 0));
    refused(30, "crash(4)", Refusals::busy, 1, x -> x.crash(4));
    refused(30, "crash(0)", Refusals::woven, 5, x -> x.crash(0));
    refused(31, "repeat()", Refusals::fresh, 5, HornBraider::repeat);
    refused(32, "laid(-1)", Refusals::busy, 1, x -> x.laid(-1));
    refused(32, "laid(8)", Refusals::busy, 5, x -> x.laid(8));
  }

  private static void refusedBraid() {
    refused(33, "letter(-1)", Refusals::woven, 1, x -> x.letter(-1));
    refused(33, "letter(300)", Refusals::woven, 5, x -> x.letter(300));
    refused(34, "wished(-1)", Refusals::busy, 1, x -> x.wished(-1));
    refused(34, "wished(2)", Refusals::busy, 5, x -> x.wished(2));
    refused(35, "braid(7)", Refusals::busy, 1, x -> x.braid(7));
    refused(35, "braid(3)", Refusals::woven, 5, x -> x.braid(3));
    refused(35, "braid(6)", Refusals::woven, 5, x -> x.braid(6));
    refused(36, "ends(4)", Refusals::busy, 1, x -> x.ends(4));
    refused(37, "pair(0,1)", Refusals::busy, 1, x -> x.pair(0, 1));
    refused(37, "pair(1,1)", Refusals::busy, 4, x -> x.pair(1, 1));
    refused(38, "thread(4,0)", Refusals::busy, 1, x -> x.thread(4, 0));
    refused(38, "thread(1,4)", Refusals::busy, 1, x -> x.thread(1, 4));
    refused(39, "times(5)", Refusals::busy, 1, x -> x.times(5));
    refused(39, "times(1)", Refusals::woven, 5, x -> x.times(1));
  }

  private static void refusedSearch() {
    refused(40, "search(65)", Refusals::busy, 1, x -> x.search(65));
    refused(40, "search(3), all are refused", Refusals::meeting, 5, x -> x.search(3));
    refused(41, "refusal(0,0,0)", Refusals::busy, 1, x -> x.refusal(0, 0, 0));
    refused(41, "refusal(1,4,0)", Refusals::busy, 1, x -> x.refusal(1, 4, 0));
    refused(41, "refusal(1,0,5)", Refusals::busy, 1, x -> x.refusal(1, 0, 5));
    refused(41, "refusal(3,1,3)", Refusals::meeting, 5, x -> x.refusal(3, 1, 3));
    refused(41, "refusal(3,1,4)", Refusals::meeting, 5, x -> x.refusal(3, 1, 4));
    refused(41, "refusal(51,0,4)", Refusals::woven, 5, x -> x.refusal(51, 0, 4));
    refused(42, "refused(1,5)", Refusals::busy, 1, x -> x.refused(1, 5));
    refused(42, "refused(65,0)", Refusals::busy, 1, x -> x.refused(65, 0));
    refused(43, "seen(0,65,0)", Refusals::busy, 1, x -> x.seen(0, 65, 0));
    refused(43, "seen(3,0,0)", Refusals::busy, 2, x -> x.seen(3, 0, 0));
    refused(43, "seen(0,0,24)", Refusals::busy, 2, x -> x.seen(0, 0, 24));
    refused(43, "seen(0,0,0), a 13th", Refusals::full, 3, x -> x.seen(0, 0, 0));
    refused(45, "name(2)", Refusals::busy, 1, x -> x.name(2));
    refused(45, "name(0)", Refusals::meeting, 5, x -> x.name(0));
    refused(46, "named(-1,0)", Refusals::busy, 1, x -> x.named(-1, 0));
    refused(46, "named(999,0)", Refusals::busy, 5, x -> x.named(999, 0));
    refused(46, "named(0,0)", Refusals::meeting, 5, x -> x.named(0, 0));
  }

  /** load() with 9 changes but the tape and what fault() tells. */
  private static void faulty() {
    String[] texts = {"", "#", "size", "size 1 2;bobbin 9;", "size 4 5;bobbin 0;bobbin 0;", "size 1 2;switch 0 1 1 1 1 1;",
      "size 3 3;switch 1 1;stuck 2 open;free 3;bobbin 0;place 0 3;word 1 2;place 1 0;"};
    int[][] faults = {{2, 0}, {1, 0}, {2, 4}, {3, 16}, {4, 25}, {6, 26}, {3, 74}};
    for (int i = 0; i < texts.length; i++) {
      for (Supplier<HornBraider> make : List.<Supplier<HornBraider>>of(Refusals::busy, Refusals::meeting, Refusals::woven, Refusals::fresh)) {
        HornBraider x = make.get();
        x.load(0);
        no(4, "load: " + texts[i], x, loadText(x, texts[i]), 9);
        plain(4, "the tape is empty", x.feed(0, 0, 0, 0, 0), 20);
        plain(5, "fault(0) of " + texts[i], x.fault(0), faults[i][0]);
        plain(5, "fault(1) of " + texts[i], x.fault(1), faults[i][1]);
        HornBraider twin = make.get();
        same(4, "all behind load: " + texts[i], beforeFault(state(x, false)), beforeFault(state(twin, false)));
      }
    }
  }

  /** A state without its two last numbers, which fault() told. */
  private static String beforeFault(String state) {
    int last = state.lastIndexOf(',');
    return state.substring(0, state.lastIndexOf(',', last - 1));
  }

  // ---- calls that only ask

  private static void asks(int promise, String call, Consumer<HornBraider> run) {
    for (Supplier<HornBraider> make : List.<Supplier<HornBraider>>of(Refusals::busy, Refusals::meeting, Refusals::woven, Refusals::full)) {
      HornBraider x = make.get();
      run.accept(x);
      HornBraider twin = make.get();
      same(promise, "all behind " + call, state(x, true), state(twin, true));
    }
  }

  private static void asking() {
    asks(2, "status()", x -> x.status());
    asks(5, "fault()", x -> x.fault(0));
    asks(6, "many()", x -> x.many(9));
    asks(7, "gate()", x -> x.gate(0, 1));
    asks(9, "bobbin()", x -> x.bobbin(0, 4));
    asks(10, "at()", x -> x.at(3));
    asks(11, "faces()", x -> x.faces(1));
    asks(23, "map()", x -> x.map(7, 3));
    asks(24, "ride()", x -> x.ride(3, 5, 777));
    asks(25, "round()", x -> x.round(3));
    asks(26, "track()", x -> x.track(3, 2));
    asks(27, "tracks()", x -> x.tracks(2));
    asks(28, "ofLength()", x -> x.ofLength(4));
    asks(29, "meets()", x -> x.meets(0, 4, 0));
    asks(30, "crash()", x -> x.crash(3));
    asks(31, "repeat()", x -> x.repeat());
    asks(32, "laid()", x -> x.laid(3));
    asks(33, "letter()", x -> x.letter(0));
    asks(34, "wished()", x -> x.wished(0));
    for (int what = 0; what <= 6; what++) {
      int w = what;
      asks(35, "braid(" + what + ")", x -> x.braid(w));
    }
    asks(36, "ends()", x -> x.ends(2));
    asks(37, "pair()", x -> x.pair(1, 2));
    asks(38, "thread()", x -> x.thread(1, 2));
    asks(39, "times()", x -> x.times(3));
    asks(40, "search()", x -> x.search(17));
    asks(41, "refusal()", x -> x.refusal(23, 0, 4));
    asks(42, "refused()", x -> x.refused(33, 4));
    asks(45, "name()", x -> x.name(1));
    asks(46, "named()", x -> x.named(0, 0));
  }

  // ---- any numbers: no call throws, and a refusal gives NONE

  private static final int[] NUMBERS = {Integer.MIN_VALUE, Integer.MIN_VALUE + 1, -100, -2, -1, 0, 1, 2, 3, 4, 5, 7, 12, 31,
    64, 80, 100, 300, 900, 1000001, 1 << 30, Integer.MAX_VALUE - 1, Integer.MAX_VALUE};

  private static void anyNumbers() throws ReflectiveOperationException {
    for (Supplier<HornBraider> make : List.<Supplier<HornBraider>>of(Refusals::busy, Refusals::meeting, Refusals::woven, Refusals::full, Refusals::fresh)) {
      for (Method m : HornBraider.class.getDeclaredMethods()) {
        if (java.lang.reflect.Modifier.isPublic(m.getModifiers()) && !m.getName().equals("feed")) {
          callWithAll(make, m);
        }
      }
      HornBraider x = make.get();
      for (int number : NUMBERS) {
        x.feed(number, -number, ~number, number >>> 1, number << 1);
      }
      no(3, "load() of such bytes", x, x.load(40), 9);
    }
  }

  private static void callWithAll(Supplier<HornBraider> make, Method m) throws ReflectiveOperationException {
    Class<?>[] kinds = m.getParameterTypes();
    long rows = 1;
    for (Class<?> kind : kinds) {
      rows *= kind == boolean.class ? 2 : NUMBERS.length;
    }
    // a stride that has no factor in common with the rows: all numbers come in all places
    int step = rows > 1000 ? 17 : 1;
    HornBraider x = make.get();
    int calls = 0;
    for (long row = 0; row < rows; row += step) {
      if (calls == 400) {
        x = make.get();
        calls = 0;
      }
      callOnce(x, m, kinds, row);
      calls++;
    }
  }

  private static void callOnce(HornBraider x, Method m, Class<?>[] kinds, long row) throws ReflectiveOperationException {
    Object[] with = new Object[kinds.length];
    long left = row;
    StringBuilder call = new StringBuilder(m.getName());
    for (int i = 0; i < kinds.length; i++) {
      if (kinds[i] == boolean.class) {
        with[i] = left % 2 == 1;
        left /= 2;
      } else {
        with[i] = NUMBERS[(int) (left % NUMBERS.length)];
        left /= NUMBERS.length;
      }
      call.append(' ').append(with[i]);
    }
    try {
      int got = (int) m.invoke(x, with);
      int status = x.status();
      plain(2, call + ": a status that can be", status >= 0 && status <= 9 && status != 8 ? 0 : status, 0);
      if (status != 0 && !m.getName().equals("status") && !m.getName().equals("fault")) {
        plain(2, call + " refused", got, NONE);
      }
    } catch (InvocationTargetException thrown) {
      plain(2, call + " threw " + thrown.getCause(), 1, 0);
    }
  }
}
