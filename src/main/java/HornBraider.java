/**
 * A braiding machine of horn gears: wheels, switches, bobbins, the braid that their threads make,
 * and searches over switches that are free or stuck.
 *
 * All rows are made in the constructors and used again, so that no call makes an object.
 */
public final class HornBraider {
    public static final int NONE = -1;

    private static final int NO_NUMBER = 1;
    private static final int NO_SUCH = 2;
    private static final int TOO_MANY = 3;
    private static final int ALREADY = 4;
    private static final int NEVER = 5;
    private static final int MEETING = 6;
    private static final int NOT_NOW = 7;
    private static final int FAULTY = 9;

    private static final int MOST_ROWS = 4;
    private static final int MOST_COLUMNS = 5;
    private static final int MOST_SLOTS = 80;
    private static final int MOST_SWITCHES = 31;
    private static final int MOST_BITS = 4;
    private static final int MOST_FREE = 6;
    private static final int MOST_BOBBINS = 8;
    private static final int MOST_LETTERS = 300;
    private static final int MOST_WISHED = 60;
    private static final int MOST_SEEN = 12;
    private static final int MOST_BYTES = 900;
    private static final int MOST_AT_ONCE = 100;
    private static final int MOST_TIMES = 4;
    private static final int LONGEST_TRIAL = 64;
    private static final int LATEST_STEP = 1000000;
    private static final int LONGEST_RIDE = 10000;

    /** Every PROGRAM's number of bits divides this one, so STEP t is like STEP t + PHASES. */
    private static final int PHASES = 12;

    /** Two that MEET do so within one common round: at most 39 times 41 ROUNDS of 12 STEPS. */
    private static final int LONGEST_CHASE = 20000;

    private static final int SHUT = 1;
    private static final int OPEN = 2;

    private int status;
    private Plan plan = new Plan();
    private Plan spare = new Plan();
    private final Reader reader = new Reader();
    private final Printer printer = new Printer();
    private final Run live = new Run();
    private final Run trial = new Run();
    private final int[] open = new int[PHASES];
    private final Rounds rounds = new Rounds();
    private final Coil coil = new Coil();
    private final Coil otherCoil = new Coil();
    private final Sightings sightings = new Sightings();
    private final Namer namer = new Namer();

    public HornBraider() {
        plan.clear(1, 1);
        live.begin(plan);
    }

    public int status() {
        return status;
    }

    public int feed(int a, int b, int c, int d, int e) {
        if (reader.size + 20 > MOST_BYTES) {
            return NONE;
        }
        reader.append(a);
        reader.append(b);
        reader.append(c);
        reader.append(d);
        reader.append(e);
        return reader.size;
    }

    public int load(int n) {
        if (n < 0 || n > reader.size) {
            return refuse(NO_NUMBER);
        }
        // A TEXT with a FAULT must leave the plan as it was, so it is read into the spare one.
        if (!reader.readAll(n, spare)) {
            return refuse(FAULTY);
        }
        Plan read = spare;
        spare = plan;
        plan = read;
        live.begin(plan);
        sightings.count = 0;
        printer.size = 0;
        return give(plan.frame.slots);
    }

    public int fault(int what) {
        if (what == 0) {
            return reader.fault;
        }
        return what == 1 ? reader.place : NONE;
    }

    // ---- what there is

    public int many(int what) {
        switch (what) {
            case 0: return give(plan.frame.rows);
            case 1: return give(plan.frame.columns);
            case 2: return give(plan.frame.switches);
            case 3: return give(plan.frame.slots);
            case 4: return give(plan.bobbins);
            case 5: return give(live.time);
            case 6: return give(live.word.size);
            case 7: return give(plan.countFree());
            case 8: return give(plan.countStuck());
            case 9: return give(plan.period());
            case 10: return give(sightings.count);
            case 11: return give(plan.hasWished ? plan.wished.size : NONE);
            default: return refuse(NO_NUMBER);
        }
    }

    public int gate(int s, int what) {
        if (what < 0 || what > 5) {
            return refuse(NO_NUMBER);
        }
        if (!hasSwitch(s)) {
            return refuse(NO_SUCH);
        }
        switch (what) {
            case 0: return give(plan.lengths[s]);
            case 1: return give(plan.opens(s, live.time) ? 1 : 0);
            case 2: return give(plan.stuck[s]);
            case 3: return give(plan.isFree[s] ? 1 : 0);
            case 4: return give(plan.frame.first[s]);
            default: return give(plan.frame.second[s]);
        }
    }

    public int bit(int s, int k) {
        if (k < 0) {
            return refuse(NO_NUMBER);
        }
        if (!hasSwitch(s)) {
            return refuse(NO_SUCH);
        }
        if (k >= plan.lengths[s]) {
            return refuse(NEVER);
        }
        return give(plan.bits[s] >> k & 1);
    }

    public int bobbin(int b, int what) {
        if (what < 0 || what > 5) {
            return refuse(NO_NUMBER);
        }
        if (!hasBobbin(b)) {
            return refuse(NO_SUCH);
        }
        switch (what) {
            case 0: return give(live.slot[b]);
            case 1: return give(plan.frame.x[live.slot[b]]);
            case 2: return give(plan.frame.y[live.slot[b]]);
            case 3: return give(plan.start[b]);
            case 4: return give(live.standOf(b));
            default: return give(plan.goal[b]);
        }
    }

    public int at(int slot) {
        if (!hasSlot(slot)) {
            return refuse(NO_SUCH);
        }
        int b = live.bobbinIn(slot);
        return b == NONE ? refuse(NEVER) : give(b);
    }

    public int faces(int slot) {
        if (!hasSlot(slot)) {
            return refuse(NO_SUCH);
        }
        int other = plan.frame.facing[slot];
        return other == NONE ? refuse(NEVER) : give(other);
    }

    // ---- what is told

    public int program(int s, int bits, int n) {
        if (n < 1 || n > MOST_BITS || bits < 0 || bits >> n != 0) {
            return refuse(NO_NUMBER);
        }
        if (!hasSwitch(s)) {
            return refuse(NO_SUCH);
        }
        if (plan.bits[s] == bits && plan.lengths[s] == n) {
            return refuse(ALREADY);
        }
        plan.bits[s] = bits;
        plan.lengths[s] = n;
        return give(n);
    }

    public int stick(int s, int how) {
        if (how < 0 || how > OPEN) {
            return refuse(NO_NUMBER);
        }
        if (!hasSwitch(s)) {
            return refuse(NO_SUCH);
        }
        int was = plan.stuck[s];
        if (was == how) {
            return refuse(ALREADY);
        }
        plan.stuck[s] = how;
        return give(was);
    }

    public int free(int s, boolean is) {
        if (!hasSwitch(s)) {
            return refuse(NO_SUCH);
        }
        if (plan.isFree[s] == is) {
            return refuse(ALREADY);
        }
        if (is && plan.countFree() >= MOST_FREE) {
            return refuse(TOO_MANY);
        }
        plan.isFree[s] = is;
        return give(plan.countFree());
    }

    public int put(int slot) {
        if (!hasSlot(slot)) {
            return refuse(NO_SUCH);
        }
        if (plan.bobbins >= MOST_BOBBINS) {
            return refuse(TOO_MANY);
        }
        if (plan.hasStartAt(slot)) {
            return refuse(ALREADY);
        }
        if (live.time > 0) {
            return refuse(NOT_NOW);
        }
        plan.addBobbin(slot);
        live.begin(plan);
        return give(plan.bobbins - 1);
    }

    public int take(int b) {
        if (!hasBobbin(b)) {
            return refuse(NO_SUCH);
        }
        if (live.time > 0) {
            return refuse(NOT_NOW);
        }
        plan.dropBobbin(b);
        sightings.drop(b);
        live.begin(plan);
        return give(plan.bobbins);
    }

    public int wish(int b, int slot) {
        if (slot < NONE) {
            return refuse(NO_NUMBER);
        }
        if (!hasBobbin(b) || slot >= plan.frame.slots) {
            return refuse(NO_SUCH);
        }
        int was = plan.goal[b];
        if (was == slot) {
            return refuse(ALREADY);
        }
        plan.goal[b] = slot;
        return give(was);
    }

    public int step(int n) {
        if (n < 1 || n > MOST_AT_ONCE) {
            return refuse(NO_NUMBER);
        }
        plan.fillOpen(open);
        int why = 0;
        int done = 0;
        for (int i = 0; i < n && why == 0; i++) {
            why = advance();
            if (why == 0) {
                done++;
            }
        }
        return done == 0 ? refuse(why) : give(done);
    }

    public int reset() {
        int was = live.time;
        live.begin(plan);
        return give(was);
    }

    public int cut() {
        int had = live.word.size;
        live.word.size = 0;
        return give(had);
    }

    public int print() {
        return printer.write(plan) ? give(printer.size) : refuse(TOO_MANY);
    }

    public int out(int i) {
        if (i < 0) {
            return refuse(NO_NUMBER);
        }
        return i < printer.size ? give(printer.bytes[i]) : refuse(NEVER);
    }

    // ---- maps, rounds, tracks

    public int map(int t, int slot) {
        if (t < 0 || t > LATEST_STEP) {
            return refuse(NO_NUMBER);
        }
        if (!hasSlot(slot)) {
            return refuse(NO_SUCH);
        }
        plan.fillOpen(open);
        return give(plan.frame.moved(slot, open[phase(t)]));
    }

    public int ride(int slot, int t, int n) {
        if (t < 0 || t > LATEST_STEP || n < 0 || n > LONGEST_RIDE) {
            return refuse(NO_NUMBER);
        }
        if (!hasSlot(slot)) {
            return refuse(NO_SUCH);
        }
        layRounds(t);
        // Behind so many STEPS it is back where it was, at a like STEP: those need not be ridden.
        int home = rounds.lengths[slot] * plan.period();
        int left = home > 0 ? n % home : n;
        int here = slot;
        for (int i = 0; i < left; i++) {
            here = plan.frame.moved(here, open[phase(t + i)]);
        }
        return give(here);
    }

    public int round(int slot) {
        if (!hasSlot(slot)) {
            return refuse(NO_SUCH);
        }
        layRounds(0);
        return give(rounds.behind[slot]);
    }

    public int track(int slot, int what) {
        if (what < 0 || what > 2) {
            return refuse(NO_NUMBER);
        }
        if (!hasSlot(slot)) {
            return refuse(NO_SUCH);
        }
        layRounds(0);
        switch (what) {
            case 0: return give(rounds.lengths[slot]);
            case 1: return give(rounds.least[slot]);
            default: return give(startsOnTrack(rounds.least[slot]));
        }
    }

    public int tracks(int what) {
        if (what < 0 || what > 2) {
            return refuse(NO_NUMBER);
        }
        layRounds(0);
        switch (what) {
            case 0: return give(rounds.countTracks(0));
            case 1: return give(rounds.greatestLength());
            default: return give((int) rounds.allHome());
        }
    }

    public int ofLength(int n) {
        if (n < 1) {
            return refuse(NO_NUMBER);
        }
        layRounds(0);
        return give(rounds.countTracks(n));
    }

    public int meets(int slot, int other, int what) {
        if (what < 0 || what > 1) {
            return refuse(NO_NUMBER);
        }
        if (!hasSlot(slot) || !hasSlot(other)) {
            return refuse(NO_SUCH);
        }
        if (slot == other || plan.frame.facing[slot] == other) {
            return refuse(ALREADY);
        }
        layRounds(0);
        rounds.findFoes(plan.frame, open, 0, plan.period());
        if (!rounds.areFoes(slot, other)) {
            return refuse(NEVER);
        }
        trial.count = 2;
        trial.slot[0] = slot;
        trial.slot[1] = other;
        trial.time = 0;
        trial.chase(plan.frame, open);
        return give(what == 0 ? trial.time : trial.leastClash());
    }

    public int crash(int what) {
        if (what < 0 || what > 3) {
            return refuse(NO_NUMBER);
        }
        layRounds(live.time);
        rounds.findFoes(plan.frame, open, live.time, plan.period());
        if (!foesAmongBobbins()) {
            return refuse(NEVER);
        }
        trial.copyPlaces(live);
        trial.chase(plan.frame, open);
        int gate = trial.leastClash();
        switch (what) {
            case 0: return give(trial.time - live.time);
            case 1: return give(gate);
            case 2: return give(trial.firstTurnedTo(plan.frame, gate, 0));
            default:
                int lesser = trial.firstTurnedTo(plan.frame, gate, 0);
                return give(trial.firstTurnedTo(plan.frame, gate, lesser + 1));
        }
    }

    public int repeat() {
        if (plan.bobbins == 0) {
            return refuse(NEVER);
        }
        layRounds(live.time);
        long all = 1;
        for (int b = 0; b < plan.bobbins; b++) {
            all = leastCommon(all, rounds.lengths[live.slot[b]]);
        }
        return give((int) (all * plan.period()));
    }

    public int laid(int k) {
        if (k < 0) {
            return refuse(NO_NUMBER);
        }
        layRounds(0);
        rounds.findFoes(plan.frame, open, 0, plan.period());
        int slot = kthLaid(k);
        return slot == NONE ? refuse(NEVER) : give(slot);
    }

    // ---- the braid

    public int letter(int k) {
        return letterOf(live.word, k);
    }

    public int wished(int k) {
        return letterOf(plan.wished, k);
    }

    public int braid(int what) {
        if (what < 0 || what > 6) {
            return refuse(NO_NUMBER);
        }
        if ((what == 3 || what == 6) && !plan.hasWished) {
            return refuse(NEVER);
        }
        switch (what) {
            case 0: return give(live.word.balance());
            case 1: return give(live.word.loops(plan.bobbins));
            case 2: return give(isEmptyBraid() ? 1 : 0);
            case 3: return give(isWishedBraid(1) ? 1 : 0);
            case 4: return give(isMirrored() ? 1 : 0);
            case 5: return give(isBackwards() ? 1 : 0);
            default: return give(isEitherWayRound() ? 1 : 0);
        }
    }

    public int ends(int place) {
        if (!hasPlace(place)) {
            return refuse(NO_NUMBER);
        }
        return give(live.word.endOf(place));
    }

    public int pair(int place, int other) {
        if (!hasPlace(place) || !hasPlace(other)) {
            return refuse(NO_NUMBER);
        }
        if (place == other) {
            return refuse(ALREADY);
        }
        return give(live.word.changesOf(place, other));
    }

    public int thread(int place, int what) {
        if (!hasPlace(place) || what < 0 || what > 3) {
            return refuse(NO_NUMBER);
        }
        switch (what) {
            case 0: return give(live.word.partsOf(place, false));
            case 1: return give(live.word.partsOf(place, true));
            case 2: return give(live.word.greatestPlaceOf(place));
            default: return give(live.word.leastPlaceOf(place));
        }
    }

    public int times(int n) {
        if (n < 1 || n > MOST_TIMES) {
            return refuse(NO_NUMBER);
        }
        if (!plan.hasWished) {
            return refuse(NEVER);
        }
        return give(isWishedBraid(n) ? 1 : 0);
    }

    // ---- what is wished, what was seen

    public int search(int n) {
        if (n < 1 || n > LONGEST_TRIAL) {
            return refuse(NO_NUMBER);
        }
        prepareSearch();
        int settings = 1 << plan.countFree();
        for (int k = 0; k < settings; k++) {
            if (whyRefused(n, k) == 0) {
                return give(k);
            }
        }
        return refuse(NEVER);
    }

    public int refusal(int n, int k, int what) {
        if (n < 1 || n > LONGEST_TRIAL || k < 0 || k >= 1 << plan.countFree()) {
            return refuse(NO_NUMBER);
        }
        if (what < 0 || what > 4) {
            return refuse(NO_NUMBER);
        }
        prepareSearch();
        int why = whyRefused(n, k);
        switch (what) {
            case 0: return give(why);
            case 1: return why == 1 ? give(trial.time) : refuse(NEVER);
            case 2: return why == 1 ? give(trial.leastClash()) : refuse(NEVER);
            case 3: return why == 2 ? give(firstMisplaced()) : refuse(NEVER);
            default:
                boolean told = why != 1 && trial.word.size <= MOST_LETTERS;
                return told ? give(trial.word.size) : refuse(NEVER);
        }
    }

    public int refused(int n, int why) {
        if (n < 1 || n > LONGEST_TRIAL || why < 0 || why > 4) {
            return refuse(NO_NUMBER);
        }
        prepareSearch();
        int settings = 1 << plan.countFree();
        int count = 0;
        for (int k = 0; k < settings; k++) {
            if (whyRefused(n, k) == why) {
                count++;
            }
        }
        return give(count);
    }

    public int seen(int b, int steps, int slot) {
        if (steps < 0 || steps > LONGEST_TRIAL) {
            return refuse(NO_NUMBER);
        }
        if (!hasBobbin(b) || !hasSlot(slot)) {
            return refuse(NO_SUCH);
        }
        if (sightings.count >= MOST_SEEN) {
            return refuse(TOO_MANY);
        }
        sightings.add(b, steps, slot);
        return give(sightings.count);
    }

    public int forget() {
        int had = sightings.count;
        sightings.count = 0;
        return give(had);
    }

    public int name(int what) {
        if (what < 0 || what > 1) {
            return refuse(NO_NUMBER);
        }
        namer.work(plan, sightings, trial);
        if (namer.found == 0) {
            return refuse(NEVER);
        }
        return give(what == 0 ? namer.size : namer.found);
    }

    public int named(int i, int k) {
        if (i < 0 || k < 0) {
            return refuse(NO_NUMBER);
        }
        namer.work(plan, sightings, trial);
        if (i >= namer.found || k >= namer.size) {
            return refuse(NEVER);
        }
        return give(namer.member(i, k));
    }

    // ---- within

    private int give(int answer) {
        status = 0;
        return answer;
    }

    private int refuse(int why) {
        status = why;
        return NONE;
    }

    private boolean hasSwitch(int s) {
        return s >= 0 && s < plan.frame.switches;
    }

    private boolean hasSlot(int slot) {
        return slot >= 0 && slot < plan.frame.slots;
    }

    private boolean hasBobbin(int b) {
        return b >= 0 && b < plan.bobbins;
    }

    private boolean hasPlace(int place) {
        return place >= 1 && place <= plan.bobbins;
    }

    /** One STEP of the machine, if it can be done; else the STATUS that tells why not. */
    private int advance() {
        if (!live.turnAll(plan.frame, open[phase(live.time)])) {
            return MEETING;
        }
        live.weave(plan.frame);
        if (live.word.size + live.freshCount > MOST_LETTERS) {
            return TOO_MANY;
        }
        live.settle();
        live.keepWoven();
        return 0;
    }

    private void layRounds(int from) {
        plan.fillOpen(open);
        rounds.lay(plan.frame, open, from, plan.period());
    }

    private int startsOnTrack(int least) {
        int count = 0;
        for (int b = 0; b < plan.bobbins; b++) {
            if (rounds.least[plan.start[b]] == least) {
                count++;
            }
        }
        return count;
    }

    private boolean foesAmongBobbins() {
        for (int b = 0; b < plan.bobbins; b++) {
            for (int c = 0; c < b; c++) {
                if (rounds.areFoes(live.slot[b], live.slot[c])) {
                    return true;
                }
            }
        }
        return false;
    }

    private int kthLaid(int k) {
        trial.count = 0;
        for (int slot = 0; slot < plan.frame.slots && trial.count < MOST_BOBBINS; slot++) {
            if (fitsLaid(slot)) {
                trial.slot[trial.count] = slot;
                trial.count++;
            }
        }
        return k < trial.count ? trial.slot[k] : NONE;
    }

    private boolean fitsLaid(int slot) {
        for (int i = 0; i < trial.count; i++) {
            int other = trial.slot[i];
            if (plan.frame.facing[slot] == other || rounds.areFoes(slot, other)) {
                return false;
            }
        }
        return true;
    }

    private int letterOf(Word word, int k) {
        if (k < 0) {
            return refuse(NO_NUMBER);
        }
        return k < word.kept() ? give(word.letters[k]) : refuse(NEVER);
    }

    private boolean isEmptyBraid() {
        coil.begin(plan.bobbins);
        otherCoil.begin(plan.bobbins);
        coil.follow(live.word, 1);
        return coil.matches(otherCoil);
    }

    private boolean isWishedBraid(int times) {
        if (!plan.wished.fits(plan.bobbins)) {
            return false;
        }
        otherCoil.begin(plan.bobbins);
        otherCoil.follow(plan.wished, 1);
        coil.begin(plan.bobbins);
        for (int i = 0; i < times; i++) {
            coil.follow(live.word, 1);
        }
        return coil.matches(otherCoil);
    }

    private boolean isMirrored() {
        coil.begin(plan.bobbins);
        otherCoil.begin(plan.bobbins);
        coil.follow(live.word, 1);
        otherCoil.follow(live.word, -1);
        return coil.matches(otherCoil);
    }

    private boolean isBackwards() {
        coil.begin(plan.bobbins);
        otherCoil.begin(plan.bobbins);
        coil.follow(live.word, 1);
        otherCoil.followBack(live.word);
        return coil.matches(otherCoil);
    }

    private boolean isEitherWayRound() {
        if (!plan.wished.fits(plan.bobbins)) {
            return false;
        }
        coil.begin(plan.bobbins);
        coil.follow(live.word, 1);
        coil.follow(plan.wished, 1);
        otherCoil.begin(plan.bobbins);
        otherCoil.follow(plan.wished, 1);
        otherCoil.follow(live.word, 1);
        return coil.matches(otherCoil);
    }

    /** The wished WORD's coil is the same for all SETTINGS, so it is made ahead of them. */
    private void prepareSearch() {
        plan.fillOpen(open);
        otherCoil.begin(plan.bobbins);
        if (plan.hasWished && plan.wished.fits(plan.bobbins)) {
            otherCoil.follow(plan.wished, 1);
        }
    }

    private int whyRefused(int n, int k) {
        trial.begin(plan);
        if (!trial.runAll(plan.frame, open, n, plan.opened(k), plan.shut(k))) {
            return 1;
        }
        if (firstMisplaced() != NONE) {
            return 2;
        }
        if (trial.word.size > MOST_LETTERS) {
            return 3;
        }
        return plan.hasWished && !trialMatchesWished() ? 4 : 0;
    }

    private int firstMisplaced() {
        for (int b = 0; b < plan.bobbins; b++) {
            if (plan.goal[b] != NONE && plan.goal[b] != trial.slot[b]) {
                return b;
            }
        }
        return NONE;
    }

    private boolean trialMatchesWished() {
        if (!plan.wished.fits(plan.bobbins)) {
            return false;
        }
        // ONE BRAID has one balance: most SETTINGS are told apart without their coil.
        if (trial.word.balance() != plan.wished.balance()) {
            return false;
        }
        coil.begin(plan.bobbins);
        coil.follow(trial.word, 1);
        return coil.matches(otherCoil);
    }

    private static int phase(int t) {
        return Math.floorMod(t, PHASES);
    }

    private static long leastCommon(long a, long b) {
        long high = a;
        long low = b;
        for (int i = 0; i < 100 && low != 0; i++) {
            long rest = high % low;
            high = low;
            low = rest;
        }
        return high == 0 ? 0 : a / high * b;
    }

    /** The WHEELS, their SLOTS and the SWITCHES between them. */
    private static final class Frame {
        private static final int ABOVE = 0;
        private static final int RIGHT = 1;
        private static final int BELOW = 2;
        private static final int LEFT = 3;

        private int rows;
        private int columns;
        private int slots;
        private int switches;
        private final int[] turned = new int[MOST_SLOTS];
        private final int[] facing = new int[MOST_SLOTS];
        private final int[] gateAt = new int[MOST_SLOTS];
        private final int[] x = new int[MOST_SLOTS];
        private final int[] y = new int[MOST_SLOTS];
        private final int[] first = new int[MOST_SWITCHES];
        private final int[] second = new int[MOST_SWITCHES];

        private void build(int rowCount, int columnCount) {
            rows = rowCount;
            columns = columnCount;
            slots = 4 * rows * columns;
            switches = 0;
            for (int row = 0; row < rows; row++) {
                for (int column = 0; column < columns; column++) {
                    buildWheel(row, column);
                }
            }
            for (int row = 0; row < rows; row++) {
                for (int column = 0; column + 1 < columns; column++) {
                    join(slotOf(row, column, RIGHT), slotOf(row, column + 1, LEFT));
                }
            }
            for (int row = 0; row + 1 < rows; row++) {
                for (int column = 0; column < columns; column++) {
                    join(slotOf(row, column, BELOW), slotOf(row + 1, column, ABOVE));
                }
            }
        }

        private int slotOf(int row, int column, int side) {
            return 4 * (row * columns + column) + side;
        }

        private void buildWheel(int row, int column) {
            int quarter = (row + column) % 2 == 0 ? 1 : 3;
            for (int side = 0; side < 4; side++) {
                int slot = slotOf(row, column, side);
                turned[slot] = slotOf(row, column, (side + quarter) % 4);
                facing[slot] = NONE;
                gateAt[slot] = NONE;
                x[slot] = 2 * column + (side == RIGHT ? 1 : 0) - (side == LEFT ? 1 : 0);
                y[slot] = 2 * row + (side == BELOW ? 1 : 0) - (side == ABOVE ? 1 : 0);
            }
        }

        private void join(int one, int other) {
            first[switches] = one;
            second[switches] = other;
            facing[one] = other;
            facing[other] = one;
            gateAt[one] = switches;
            gateAt[other] = switches;
            switches++;
        }

        /** ORDER as one number: y is from -1 to 7, so it never outweighs x. */
        private int rank(int slot) {
            return 16 * x[slot] + y[slot];
        }

        private int moved(int slot, int openNow) {
            int to = turned[slot];
            int gate = gateAt[to];
            return gate != NONE && (openNow >> gate & 1) == 1 ? facing[to] : to;
        }
    }

    /** What is told: PROGRAMS, STUCK and FREE ones, STARTS, wished SLOTS, the wished WORD. */
    private static final class Plan {
        private final Frame frame = new Frame();
        private final int[] bits = new int[MOST_SWITCHES];
        private final int[] lengths = new int[MOST_SWITCHES];
        private final int[] stuck = new int[MOST_SWITCHES];
        private final boolean[] isFree = new boolean[MOST_SWITCHES];
        private int bobbins;
        private final int[] start = new int[MOST_BOBBINS];
        private final int[] goal = new int[MOST_BOBBINS];
        private boolean hasWished;
        private final Word wished = new Word(MOST_WISHED);

        private void clear(int rows, int columns) {
            frame.build(rows, columns);
            for (int s = 0; s < MOST_SWITCHES; s++) {
                bits[s] = 0;
                lengths[s] = 1;
                stuck[s] = 0;
                isFree[s] = false;
            }
            bobbins = 0;
            hasWished = false;
            wished.size = 0;
        }

        private void addBobbin(int slot) {
            start[bobbins] = slot;
            goal[bobbins] = NONE;
            bobbins++;
        }

        private void dropBobbin(int b) {
            bobbins--;
            for (int i = b; i < bobbins; i++) {
                start[i] = start[i + 1];
                goal[i] = goal[i + 1];
            }
        }

        private boolean hasStartAt(int slot) {
            for (int b = 0; b < bobbins; b++) {
                if (start[b] == slot || frame.facing[slot] == start[b]) {
                    return true;
                }
            }
            return false;
        }

        private int countFree() {
            int count = 0;
            for (int s = 0; s < frame.switches; s++) {
                if (isFree[s]) {
                    count++;
                }
            }
            return count;
        }

        private int countStuck() {
            int count = 0;
            for (int s = 0; s < frame.switches; s++) {
                if (stuck[s] != 0) {
                    count++;
                }
            }
            return count;
        }

        private int period() {
            long all = 1;
            for (int s = 0; s < frame.switches; s++) {
                all = leastCommon(all, lengths[s]);
            }
            return (int) all;
        }

        private boolean tellsOpen(int s, int t) {
            int length = lengths[s];
            return length > 0 && (bits[s] >> Math.floorMod(t, length) & 1) == 1;
        }

        private boolean opens(int s, int t) {
            return stuck[s] == OPEN || stuck[s] != SHUT && tellsOpen(s, t);
        }

        /** For each PHASE the SWITCHES that are OPEN then, one bit each. */
        private void fillOpen(int[] masks) {
            for (int t = 0; t < PHASES; t++) {
                int mask = 0;
                for (int s = 0; s < frame.switches; s++) {
                    if (opens(s, t)) {
                        mask |= 1 << s;
                    }
                }
                masks[t] = mask;
            }
        }

        /** Likewise, as if none were STUCK. */
        private void fillPrograms(int[] masks) {
            for (int t = 0; t < PHASES; t++) {
                int mask = 0;
                for (int s = 0; s < frame.switches; s++) {
                    if (tellsOpen(s, t)) {
                        mask |= 1 << s;
                    }
                }
                masks[t] = mask;
            }
        }

        /** The FREE ones that SETTING k holds OPEN. */
        private int opened(int k) {
            return heldBy(k);
        }

        /** The FREE ones that SETTING k holds SHUT. */
        private int shut(int k) {
            return heldBy(~k);
        }

        private int heldBy(int k) {
            int mask = 0;
            int j = 0;
            for (int s = 0; s < frame.switches; s++) {
                if (isFree[s]) {
                    if (stuck[s] == 0 && (k >> j & 1) == 1) {
                        mask |= 1 << s;
                    }
                    j++;
                }
            }
            return mask;
        }
    }

    /** LETTERS one behind the other; those beyond the room are counted, not kept. */
    private static final class Word {
        private final int[] letters;
        private int size;

        private Word(int room) {
            letters = new int[Math.max(room, 0)];
        }

        private void add(int sign) {
            if (size < letters.length) {
                letters[size] = sign;
            }
            size++;
        }

        private int kept() {
            return Math.min(size, letters.length);
        }

        /** Whether so many threads have all its LETTERS. */
        private boolean fits(int threads) {
            for (int i = 0; i < kept(); i++) {
                if (Math.abs(letters[i]) >= threads) {
                    return false;
                }
            }
            return true;
        }

        private int balance() {
            int sum = 0;
            for (int i = 0; i < kept(); i++) {
                sum += letters[i] > 0 ? 1 : -1;
            }
            return sum;
        }

        private static int passed(int place, int sign) {
            int left = Math.abs(sign);
            if (place == left) {
                return left + 1;
            }
            return place == left + 1 ? left : place;
        }

        private int endOf(int place) {
            int here = place;
            for (int i = 0; i < kept(); i++) {
                here = passed(here, letters[i]);
            }
            return here;
        }

        private int loops(int threads) {
            int count = 0;
            int walked = 0;
            for (int place = 1; place <= threads; place++) {
                if ((walked >> place & 1) == 0) {
                    count++;
                    int here = place;
                    for (int i = 0; i < threads && (walked >> here & 1) == 0; i++) {
                        walked |= 1 << here;
                        here = endOf(here);
                    }
                }
            }
            return count;
        }

        private int changesOf(int place, int other) {
            int one = place;
            int two = other;
            int sum = 0;
            for (int i = 0; i < kept(); i++) {
                int left = Math.abs(letters[i]);
                if (Math.min(one, two) == left && Math.max(one, two) == left + 1) {
                    sum += letters[i] > 0 ? 1 : -1;
                }
                one = passed(one, letters[i]);
                two = passed(two, letters[i]);
            }
            return sum;
        }

        private int partsOf(int place, boolean inFront) {
            int here = place;
            int count = 0;
            for (int i = 0; i < kept(); i++) {
                int next = passed(here, letters[i]);
                // Above 0 the one that goes to the right is in FRONT, below 0 the other one.
                boolean isFront = next > here == letters[i] > 0;
                if (next != here && (isFront || !inFront)) {
                    count++;
                }
                here = next;
            }
            return count;
        }

        private int greatestPlaceOf(int place) {
            int here = place;
            int greatest = place;
            for (int i = 0; i < kept(); i++) {
                here = passed(here, letters[i]);
                greatest = Math.max(greatest, here);
            }
            return greatest;
        }

        private int leastPlaceOf(int place) {
            int here = place;
            int least = place;
            for (int i = 0; i < kept(); i++) {
                here = passed(here, letters[i]);
                least = Math.min(least, here);
            }
            return least;
        }
    }

    /** BOBBINS on their way, and the WORD that they make. */
    private static final class Run {
        private int count;
        private int time;
        private final int[] slot = new int[MOST_BOBBINS];
        private final int[] next = new int[MOST_BOBBINS];
        private final int[] line = new int[MOST_BOBBINS];
        private final int[] queue = new int[MOST_BOBBINS];
        private final int[] fresh = new int[MOST_BOBBINS * (MOST_BOBBINS - 1) / 2];
        private int freshCount;
        private final Word word = new Word(MOST_LETTERS);
        private int standing;
        private int clash;

        private void begin(Plan plan) {
            count = plan.bobbins;
            time = 0;
            word.size = 0;
            for (int b = 0; b < count; b++) {
                slot[b] = plan.start[b];
                enterLine(plan.frame, b);
            }
        }

        private void enterLine(Frame frame, int b) {
            int i = b;
            while (i > 0 && frame.rank(slot[line[i - 1]]) > frame.rank(slot[b])) {
                line[i] = line[i - 1];
                i--;
            }
            line[i] = b;
        }

        private void copyPlaces(Run other) {
            count = other.count;
            time = other.time;
            for (int b = 0; b < count; b++) {
                slot[b] = other.slot[b];
            }
        }

        private int bobbinIn(int wanted) {
            for (int b = 0; b < count; b++) {
                if (slot[b] == wanted) {
                    return b;
                }
            }
            return NONE;
        }

        private int standOf(int b) {
            for (int i = 0; i < count; i++) {
                if (line[i] == b) {
                    return i;
                }
            }
            return NONE;
        }

        /** Finds where all would be behind the next STEP; false if two MEET. */
        private boolean turnAll(Frame frame, int openNow) {
            standing = 0;
            clash = 0;
            for (int b = 0; b < count; b++) {
                int to = frame.turned[slot[b]];
                int gate = frame.gateAt[to];
                if (gate != NONE) {
                    int mark = 1 << gate;
                    clash |= standing & mark;
                    standing |= mark;
                    if ((openNow & mark) != 0) {
                        to = frame.facing[to];
                    }
                }
                next[b] = to;
            }
            return clash == 0;
        }

        private int leastClash() {
            for (int s = 0; s < MOST_SWITCHES; s++) {
                if ((clash >> s & 1) == 1) {
                    return s;
                }
            }
            return NONE;
        }

        /** The LETTERS of the STEP that turnAll() found. */
        private void weave(Frame frame) {
            freshCount = 0;
            for (int i = 0; i < count; i++) {
                queue[i] = line[i];
            }
            int i = 0;
            // Ahead of i all stand in order; a change at i can only disturb the two ahead of it.
            for (int looks = 0; looks < 100 && i + 1 < count; looks++) {
                if (frame.rank(next[queue[i]]) > frame.rank(next[queue[i + 1]])) {
                    exchange(frame, i);
                    i = Math.max(i - 1, 0);
                } else {
                    i++;
                }
            }
        }

        private void exchange(Frame frame, int i) {
            int toRight = queue[i];
            int toLeft = queue[i + 1];
            if (freshCount < fresh.length) {
                fresh[freshCount] = isInFront(frame, toRight, toLeft) ? i + 1 : -(i + 1);
                freshCount++;
            }
            queue[i] = toLeft;
            queue[i + 1] = toRight;
        }

        private boolean isInFront(Frame frame, int one, int other) {
            int mine = frame.y[slot[one]] + frame.y[next[one]];
            int its = frame.y[slot[other]] + frame.y[next[other]];
            return mine > its || mine == its && one < other;
        }

        private void settle() {
            for (int b = 0; b < count; b++) {
                slot[b] = next[b];
            }
            time++;
        }

        private void keepWoven() {
            for (int i = 0; i < count; i++) {
                line[i] = queue[i];
            }
            for (int i = 0; i < freshCount; i++) {
                word.add(fresh[i]);
            }
        }

        /** n STEPS with LETTERS, some SWITCHES held; false if two MEET, time tells the STEP. */
        private boolean runAll(Frame frame, int[] open, int n, int held, int heldShut) {
            for (int i = 0; i < n; i++) {
                if (!turnAll(frame, (open[phase(time)] | held) & ~heldShut)) {
                    return false;
                }
                weave(frame);
                settle();
                keepWoven();
            }
            return true;
        }

        /** STEPS without LETTERS until two MEET. */
        private void chase(Frame frame, int[] open) {
            for (int i = 0; i < LONGEST_CHASE; i++) {
                if (!turnAll(frame, open[phase(time)])) {
                    return;
                }
                settle();
            }
        }

        /** The first BOBBIN from a number on that turns to a SWITCH in the next STEP. */
        private int firstTurnedTo(Frame frame, int gate, int from) {
            for (int b = from; b < count; b++) {
                if (frame.gateAt[frame.turned[slot[b]]] == gate) {
                    return b;
                }
            }
            return NONE;
        }
    }

    /** ROUND, TRACKS, and who ever MEETS whom. */
    private static final class Rounds {
        private int slots;
        private final int[] behind = new int[MOST_SLOTS];
        private final int[] least = new int[MOST_SLOTS];
        private final int[] lengths = new int[MOST_SLOTS];
        private final int[] here = new int[MOST_SLOTS];
        private final int[] holder = new int[MOST_SLOTS];
        private final long[] foes = new long[2 * MOST_SLOTS];

        private void lay(Frame frame, int[] open, int from, int period) {
            slots = frame.slots;
            for (int q = 0; q < slots; q++) {
                int place = q;
                for (int i = 0; i < period; i++) {
                    place = frame.moved(place, open[phase(from + i)]);
                }
                behind[q] = place;
                lengths[q] = 0;
            }
            for (int q = 0; q < slots; q++) {
                if (lengths[q] == 0) {
                    markTrack(q);
                }
            }
        }

        private void markTrack(int from) {
            int length = 1;
            int place = behind[from];
            for (int i = 0; i < slots && place != from; i++) {
                length++;
                place = behind[place];
            }
            for (int i = 0; i < length; i++) {
                lengths[place] = length;
                least[place] = from;
                place = behind[place];
            }
        }

        /** How many TRACKS have a LENGTH (0: any). */
        private int countTracks(int length) {
            int count = 0;
            for (int q = 0; q < slots; q++) {
                if (least[q] == q && (length == 0 || lengths[q] == length)) {
                    count++;
                }
            }
            return count;
        }

        private int greatestLength() {
            int greatest = 0;
            for (int q = 0; q < slots; q++) {
                greatest = Math.max(greatest, lengths[q]);
            }
            return greatest;
        }

        private long allHome() {
            long all = 1;
            for (int q = 0; q < slots; q++) {
                all = leastCommon(all, lengths[q]);
            }
            return all;
        }

        /**
         * Marks all pairs of SLOTS that ever MEET: those that do so in one ROUND, and with each the
         * pairs to which ROUNDS bring it, for the ROUNDS bring each of those to it again.
         */
        private void findFoes(Frame frame, int[] open, int from, int period) {
            for (int i = 0; i < foes.length; i++) {
                foes[i] = 0;
            }
            for (int q = 0; q < slots; q++) {
                here[q] = q;
            }
            for (int i = 0; i < period; i++) {
                for (int q = 0; q < slots; q++) {
                    holder[frame.turned[here[q]]] = q;
                }
                for (int s = 0; s < frame.switches; s++) {
                    markFoes(holder[frame.first[s]], holder[frame.second[s]]);
                }
                for (int q = 0; q < slots; q++) {
                    here[q] = frame.moved(here[q], open[phase(from + i)]);
                }
            }
        }

        private void markFoes(int one, int other) {
            int a = one;
            int b = other;
            for (int i = 0; i < MOST_SLOTS * MOST_SLOTS && !areFoes(a, b); i++) {
                foes[2 * a + (b >> 6)] |= 1L << (b & 63);
                foes[2 * b + (a >> 6)] |= 1L << (a & 63);
                a = behind[a];
                b = behind[b];
            }
        }

        private boolean areFoes(int a, int b) {
            return (foes[2 * a + (b >> 6)] >> (b & 63) & 1) == 1;
        }
    }

    /**
     * Dynnikov's coordinates of a braid: two numbers for each thread, on which each LETTER acts; two
     * WORDS are ONE BRAID just if they bring 0, 1, 0, 1, .. to the same numbers.
     *
     * A LETTER makes the greatest number at most 7 times as great, so 1200 LETTERS need at most 3369
     * bits. A number has limbs of 60 bits, the lowest first, all of them at least 0 but for the top one.
     */
    private static final class Coil {
        private static final int LIMBS = 60;
        private static final int LIMB_BITS = 60;
        private static final long LIMB_MASK = (1L << LIMB_BITS) - 1;
        private static final long TOP_LIMIT = 1L << 57;
        private static final int SPAN = 2 * MOST_BOBBINS;
        private static final int HELP = SPAN;
        private static final int UPPER = SPAN + 1;
        private static final int LOWER = SPAN + 2;

        private final long[] limbs = new long[(SPAN + 3) * LIMBS];
        private int threads;
        private int width;

        private void begin(int threadCount) {
            threads = threadCount;
            width = 1;
            for (int i = 0; i < 2 * threads; i++) {
                limbs[i * LIMBS] = i % 2;
            }
        }

        private void follow(Word word, int sign) {
            for (int i = 0; i < word.kept(); i++) {
                act(sign * word.letters[i]);
            }
        }

        private void followBack(Word word) {
            for (int i = word.kept() - 1; i >= 0; i--) {
                act(word.letters[i]);
            }
        }

        private void act(int letter) {
            int i = Math.abs(letter);
            if (i < 1 || i >= threads) {
                return;
            }
            int sign = letter > 0 ? 1 : -1;
            int x1 = 2 * i - 2;
            int y1 = x1 + 1;
            int x2 = x1 + 2;
            int y2 = x1 + 3;
            wipe(HELP);
            addTo(HELP, x1, sign);
            addTo(HELP, x2, -sign);
            addLower(HELP, y1, -1);
            addUpper(HELP, y2, 1);
            wipe(UPPER);
            addUpper(UPPER, y2, 1);
            addTo(UPPER, HELP, -1);
            wipe(LOWER);
            addLower(LOWER, y1, 1);
            addTo(LOWER, HELP, 1);
            addUpper(x1, y1, sign);
            addUpper(x1, UPPER, sign);
            addLower(x2, y2, sign);
            addLower(x2, LOWER, sign);
            swap(y1, y2);
            addUpper(y1, HELP, -1);
            addUpper(y2, HELP, 1);
            if (isBig(x1) || isBig(y1) || isBig(x2) || isBig(y2)) {
                widen();
            }
        }

        private void wipe(int number) {
            for (int k = 0; k < width; k++) {
                limbs[number * LIMBS + k] = 0;
            }
        }

        private void addTo(int to, int from, int sign) {
            int target = to * LIMBS;
            int source = from * LIMBS;
            int top = width - 1;
            long carry = 0;
            for (int k = 0; k < top; k++) {
                long sum = limbs[target + k] + sign * limbs[source + k] + carry;
                limbs[target + k] = sum & LIMB_MASK;
                carry = sum >> LIMB_BITS;
            }
            limbs[target + top] += sign * limbs[source + top] + carry;
        }

        private void addUpper(int to, int from, int sign) {
            if (!isBelowZero(from)) {
                addTo(to, from, sign);
            }
        }

        private void addLower(int to, int from, int sign) {
            if (isBelowZero(from)) {
                addTo(to, from, sign);
            }
        }

        private boolean isBelowZero(int number) {
            return limbs[number * LIMBS + width - 1] < 0;
        }

        private void swap(int one, int other) {
            for (int k = 0; k < width; k++) {
                long limb = limbs[one * LIMBS + k];
                limbs[one * LIMBS + k] = limbs[other * LIMBS + k];
                limbs[other * LIMBS + k] = limb;
            }
        }

        /** Whether the top limb might not hold what one more LETTER makes of it. */
        private boolean isBig(int number) {
            return Math.abs(limbs[number * LIMBS + width - 1]) > TOP_LIMIT;
        }

        private void widen() {
            if (width >= LIMBS) {
                return;
            }
            for (int i = 0; i < 2 * threads; i++) {
                int top = i * LIMBS + width - 1;
                limbs[top + 1] = limbs[top] >> LIMB_BITS;
                limbs[top] &= LIMB_MASK;
            }
            width++;
        }

        private boolean matches(Coil other) {
            for (int i = 0; i < LIMBS && width < other.width; i++) {
                widen();
            }
            for (int i = 0; i < LIMBS && other.width < width; i++) {
                other.widen();
            }
            for (int i = 0; i < 2 * threads; i++) {
                for (int k = 0; k < width; k++) {
                    if (limbs[i * LIMBS + k] != other.limbs[i * LIMBS + k]) {
                        return false;
                    }
                }
            }
            return true;
        }
    }

    /** What was SEEN. */
    private static final class Sightings {
        private int count;
        private final int[] bobbins = new int[MOST_SEEN];
        private final int[] steps = new int[MOST_SEEN];
        private final int[] slots = new int[MOST_SEEN];

        private void add(int b, int behind, int slot) {
            bobbins[count] = b;
            steps[count] = behind;
            slots[count] = slot;
            count++;
        }

        /** That BOBBIN is no more, those behind it come up by one number. */
        private void drop(int b) {
            int kept = 0;
            for (int i = 0; i < count; i++) {
                if (bobbins[i] != b) {
                    bobbins[kept] = bobbins[i] > b ? bobbins[i] - 1 : bobbins[i];
                    steps[kept] = steps[i];
                    slots[kept] = slots[i];
                    kept++;
                }
            }
            count = kept;
        }

        private int latest() {
            int greatest = 0;
            for (int i = 0; i < count; i++) {
                greatest = Math.max(greatest, steps[i]);
            }
            return greatest;
        }

        /** Whether all that was SEEN behind so many STEPS as are done is so. */
        private boolean agree(Run run) {
            for (int i = 0; i < count; i++) {
                if (steps[i] == run.time && run.slot[bobbins[i]] != slots[i]) {
                    return false;
                }
            }
            return true;
        }
    }

    /** The sets of STUCK ones that EXPLAIN; a member is 2 times the SWITCH, and 1 if it is OPEN. */
    private static final class Namer {
        private static final int MOST_SETS = 2 * MOST_SWITCHES * (MOST_SWITCHES - 1);
        private static final int SPLIT = 64;

        private int size;
        private int found;
        private final int[] sets = new int[MOST_SETS];
        private final int[] programs = new int[PHASES];
        private int stoodOpen;
        private int stoodShut;

        private void work(Plan plan, Sightings sightings, Run run) {
            plan.fillPrograms(programs);
            int members = 2 * plan.frame.switches;
            found = 0;
            size = 0;
            if (explains(plan, sightings, run, NONE, NONE)) {
                keep(0, 0);
                return;
            }
            size = 1;
            for (int a = 0; a < members; a++) {
                if (explains(plan, sightings, run, a, NONE)) {
                    keep(a, 0);
                }
            }
            if (found > 0) {
                return;
            }
            size = 2;
            for (int a = 0; a < members; a++) {
                workBehind(plan, sightings, run, a);
            }
        }

        /**
         * Sets with a and a greater SWITCH. The other one changes what comes only where a BOBBIN came
         * by it, and it was not as it would be STUCK, ahead of where a alone failed.
         */
        private void workBehind(Plan plan, Sightings sightings, Run run, int a) {
            if (explains(plan, sightings, run, a, NONE)) {
                return;
            }
            int wereOpen = stoodOpen;
            int wereShut = stoodShut;
            for (int b = 2 * (a / 2 + 1); b < 2 * plan.frame.switches; b++) {
                int touched = b % 2 == 1 ? wereShut : wereOpen;
                if ((touched >> b / 2 & 1) == 1 && explains(plan, sightings, run, a, b)) {
                    keep(a, b);
                }
            }
        }

        private void keep(int a, int b) {
            if (found < sets.length) {
                sets[found] = a * SPLIT + b;
                found++;
            }
        }

        private int member(int i, int k) {
            return k == 0 ? sets[i] / SPLIT : sets[i] % SPLIT;
        }

        private boolean explains(Plan plan, Sightings sightings, Run run, int a, int b) {
            int held = heldOpen(a) | heldOpen(b);
            int heldShut = heldShut(a) | heldShut(b);
            int latest = sightings.latest();
            stoodOpen = 0;
            stoodShut = 0;
            run.begin(plan);
            for (int i = 0; i < latest; i++) {
                int openNow = (programs[phase(run.time)] | held) & ~heldShut;
                if (!sightings.agree(run) || !run.turnAll(plan.frame, openNow)) {
                    return false;
                }
                stoodOpen |= run.standing & openNow;
                stoodShut |= run.standing & ~openNow;
                run.settle();
            }
            return sightings.agree(run);
        }

        private static int heldOpen(int member) {
            return member >= 0 && member % 2 == 1 ? 1 << member / 2 : 0;
        }

        private static int heldShut(int member) {
            return member >= 0 && member % 2 == 0 ? 1 << member / 2 : 0;
        }
    }

    /** The tape, and how a TEXT on it is read. */
    private static final class Reader {
        private static final int END = 0;
        private static final int BAD = 1;
        private static final int WORD = 2;
        private static final int NUMBER = 3;
        private static final int MINUS = 4;
        private static final int SEMICOLON = 5;
        private static final int MOST_DIGITS = 3;

        private static final int NO_TOKEN = 1;
        private static final int CANT_STAND = 2;
        private static final int CANT_BE = 3;
        private static final int TAKEN = 4;
        private static final int ONE_TOO_MANY = 6;

        private final byte[] tape = new byte[MOST_BYTES];
        private int size;
        private int fault = NONE;
        private int place = NONE;
        private int end;
        private int from;
        private int next;
        private int kind;
        private int value;

        private void append(int four) {
            for (int shift = 24; shift >= 0; shift -= 8) {
                if (size < MOST_BYTES) {
                    tape[size] = (byte) (four >> shift);
                    size++;
                }
            }
        }

        private boolean readAll(int n, Plan plan) {
            end = n;
            next = 0;
            size = 0;
            fault = 0;
            place = NONE;
            if (!readSize(plan)) {
                return false;
            }
            advance();
            for (int i = 0; i <= MOST_BYTES && kind != END; i++) {
                if (!readLine(plan)) {
                    return false;
                }
                advance();
            }
            return true;
        }

        private boolean fail(int why) {
            fault = why;
            place = from;
            return false;
        }

        private boolean readSize(Plan plan) {
            advance();
            if (!isWord("size")) {
                return fail(misfit());
            }
            if (!takeNumber(1, MOST_ROWS)) {
                return false;
            }
            int rows = value;
            if (!takeNumber(1, MOST_COLUMNS)) {
                return false;
            }
            plan.clear(rows, value);
            return takeSemicolon();
        }

        private boolean readLine(Plan plan) {
            if (isWord("switch")) {
                return readSwitch(plan);
            }
            if (isWord("bobbin")) {
                return readBobbin(plan);
            }
            if (isWord("stuck")) {
                return readStuck(plan);
            }
            if (isWord("free")) {
                return readFree(plan);
            }
            if (isWord("place")) {
                return readPlace(plan);
            }
            return isWord("word") ? readWished(plan) : fail(misfit());
        }

        private boolean readSwitch(Plan plan) {
            if (!takeNumber(0, plan.frame.switches - 1)) {
                return false;
            }
            int s = value;
            if (!takeNumber(0, 1)) {
                return false;
            }
            int bits = value;
            for (int length = 1; length <= MOST_BITS; length++) {
                advance();
                if (kind == SEMICOLON) {
                    plan.bits[s] = bits;
                    plan.lengths[s] = length;
                    return true;
                }
                if (!isNumber(0, 1)) {
                    return false;
                }
                bits |= value << length;
            }
            return fail(ONE_TOO_MANY);
        }

        private boolean readBobbin(Plan plan) {
            if (plan.bobbins >= MOST_BOBBINS) {
                return fail(ONE_TOO_MANY);
            }
            if (!takeNumber(0, plan.frame.slots - 1)) {
                return false;
            }
            if (plan.hasStartAt(value)) {
                return fail(TAKEN);
            }
            plan.addBobbin(value);
            return takeSemicolon();
        }

        private boolean readStuck(Plan plan) {
            if (!takeNumber(0, plan.frame.switches - 1)) {
                return false;
            }
            int s = value;
            advance();
            if (isWord("open")) {
                plan.stuck[s] = OPEN;
            } else if (isWord("shut")) {
                plan.stuck[s] = SHUT;
            } else {
                return fail(misfit());
            }
            return takeSemicolon();
        }

        private boolean readFree(Plan plan) {
            if (plan.countFree() >= MOST_FREE) {
                return fail(ONE_TOO_MANY);
            }
            if (!takeNumber(0, plan.frame.switches - 1)) {
                return false;
            }
            plan.isFree[value] = true;
            return takeSemicolon();
        }

        private boolean readPlace(Plan plan) {
            if (!takeNumber(0, plan.bobbins - 1)) {
                return false;
            }
            int b = value;
            if (!takeNumber(0, plan.frame.slots - 1)) {
                return false;
            }
            plan.goal[b] = value;
            return takeSemicolon();
        }

        private boolean readWished(Plan plan) {
            plan.hasWished = true;
            plan.wished.size = 0;
            for (int i = 0; i <= MOST_WISHED; i++) {
                advance();
                if (kind == SEMICOLON) {
                    return true;
                }
                int sign = kind == MINUS ? -1 : 1;
                if (kind == MINUS) {
                    advance();
                }
                if (!isNumber(1, MOST_BOBBINS - 1)) {
                    return false;
                }
                plan.wished.add(sign * value);
            }
            return fail(ONE_TOO_MANY);
        }

        private boolean takeSemicolon() {
            advance();
            return kind == SEMICOLON || fail(misfit());
        }

        private boolean takeNumber(int least, int greatest) {
            advance();
            return isNumber(least, greatest);
        }

        private boolean isNumber(int least, int greatest) {
            if (kind != NUMBER) {
                return fail(misfit());
            }
            return value >= least && value <= greatest || fail(CANT_BE);
        }

        /** The FAULT of what stands where another kind of TOKEN is due. */
        private int misfit() {
            return kind == BAD ? NO_TOKEN : CANT_STAND;
        }

        private boolean isWord(String word) {
            if (kind != WORD || next - from != word.length()) {
                return false;
            }
            for (int i = 0; i < word.length(); i++) {
                if (tape[from + i] != word.charAt(i)) {
                    return false;
                }
            }
            return true;
        }

        /** The next TOKEN: it stands from 'from' on up to 'next'. */
        private void advance() {
            while (next < end && (tape[next] == 10 || tape[next] == 32)) {
                next++;
            }
            from = next;
            if (next >= end) {
                kind = END;
                return;
            }
            kind = kindOf(tape[next]);
            next++;
            if (kind != WORD && kind != NUMBER) {
                return;
            }
            while (next < end && kindOf(tape[next]) == kind) {
                next++;
            }
            if (kind == NUMBER) {
                weighNumber();
            }
        }

        private void weighNumber() {
            if (next - from > MOST_DIGITS) {
                kind = BAD;
                return;
            }
            value = 0;
            for (int i = from; i < next; i++) {
                value = 10 * value + tape[i] - '0';
            }
        }

        private static int kindOf(int sign) {
            if (sign >= 'a' && sign <= 'z') {
                return WORD;
            }
            if (sign >= '0' && sign <= '9') {
                return NUMBER;
            }
            if (sign == '-') {
                return MINUS;
            }
            return sign == ';' ? SEMICOLON : BAD;
        }
    }

    /** OUT, and how a TEXT is written to it. */
    private static final class Printer {
        private final byte[] bytes = new byte[MOST_BYTES];
        private int size;
        private int written;
        private boolean keeps;

        /** It is written twice, first only to count, for OUT must stay if it is too long. */
        private boolean write(Plan plan) {
            keeps = false;
            writeAll(plan);
            if (written > MOST_BYTES) {
                return false;
            }
            keeps = true;
            writeAll(plan);
            size = written;
            return true;
        }

        private void writeAll(Plan plan) {
            written = 0;
            writeText("size");
            writeNumber(plan.frame.rows);
            writeNumber(plan.frame.columns);
            writeText(";");
            writeSwitches(plan);
            for (int b = 0; b < plan.bobbins; b++) {
                writeText("bobbin");
                writeNumber(plan.start[b]);
                writeText(";");
            }
            writeStuck(plan);
            writeFree(plan);
            writePlaces(plan);
            if (plan.hasWished) {
                writeWished(plan.wished);
            }
        }

        private void writeSwitches(Plan plan) {
            for (int s = 0; s < plan.frame.switches; s++) {
                if (plan.lengths[s] != 1 || plan.bits[s] != 0) {
                    writeText("switch");
                    writeNumber(s);
                    for (int k = 0; k < plan.lengths[s]; k++) {
                        writeNumber(plan.bits[s] >> k & 1);
                    }
                    writeText(";");
                }
            }
        }

        private void writeStuck(Plan plan) {
            for (int s = 0; s < plan.frame.switches; s++) {
                if (plan.stuck[s] != 0) {
                    writeText("stuck");
                    writeNumber(s);
                    writeText(plan.stuck[s] == OPEN ? " open;" : " shut;");
                }
            }
        }

        private void writeFree(Plan plan) {
            for (int s = 0; s < plan.frame.switches; s++) {
                if (plan.isFree[s]) {
                    writeText("free");
                    writeNumber(s);
                    writeText(";");
                }
            }
        }

        private void writePlaces(Plan plan) {
            for (int b = 0; b < plan.bobbins; b++) {
                if (plan.goal[b] != NONE) {
                    writeText("place");
                    writeNumber(b);
                    writeNumber(plan.goal[b]);
                    writeText(";");
                }
            }
        }

        private void writeWished(Word wished) {
            writeText("word");
            for (int i = 0; i < wished.kept(); i++) {
                if (wished.letters[i] < 0) {
                    writeText(" -");
                }
                writeNumber(Math.abs(wished.letters[i]));
            }
            writeText(";");
        }

        private void writeText(String text) {
            for (int i = 0; i < text.length(); i++) {
                writeByte(text.charAt(i));
            }
        }

        /** A NUMBER with its blank; none has more than two digits. */
        private void writeNumber(int number) {
            writeByte(' ');
            if (number >= 10) {
                writeByte('0' + number / 10);
            }
            writeByte('0' + number % 10);
        }

        private void writeByte(int sign) {
            if (keeps && written < MOST_BYTES) {
                bytes[written] = (byte) sign;
            }
            written++;
        }
    }
}
