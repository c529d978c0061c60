import java.util.Arrays;

/** People on a raft, each holding a part: ../shared/DOC.md tells what every call answers. */
public final class RaftHold {
    public static final int NONE = -1;

    private static final int NO_SUCH = -2;
    private static final int BAD_NUMBER = -3;
    private static final int TOO_MANY = -4;
    private static final int NOT_NOW = -5;
    private static final int TRAY_MISSING = -6;
    private static final int NO_PLACE = -7;
    private static final int WHY_NOT = -10;
    private static final int TEXT_FAULT = -30;

    private static final int MOST_BYTES = 900;
    private static final int FED_BYTES = 20;
    private static final int MOST_PEOPLE = 8;
    private static final int SETS = 256;
    private static final int ISLANDS = 3;
    private static final int LOTS = 10;
    private static final int TRAYS = 4;
    private static final int IMAGES = 2;
    private static final int MOST_NUMBERS = 40;
    private static final int MOST_TESTS = 8;
    private static final int MOST_UNDONE = 10;
    private static final int MOST_WEEKS = 99;
    private static final int MOST_CHANCE_WEEKS = 8;
    private static final int DIGITS = 10;

    private static final int GO_DEED = 10;
    private static final int TAKE_DEED = 20;
    private static final int STORM_DEED = 30;
    private static final int MEND_DEED = 100;

    private static final int[] ORDERS = {1, 1, 2, 6, 24, 120, 720, 5040, 40320};

    private final byte[] tape = new byte[MOST_BYTES];
    private int taped;
    private final Reader reader = new Reader();
    private Raft raft = new Raft();
    private final State now = new State();
    private final State before = new State();
    private final State trial = new State();
    private final Sea sea = new Sea(raft);
    private final Turns turns = new Turns(sea);
    private final Places places = new Places();
    private final Past past = new Past();
    private final Tray[] trays = new Tray[TRAYS];
    private final Raft[] imageRafts = new Raft[IMAGES];
    private final State[] imageStates = new State[IMAGES];
    private int[] ways = new int[SETS];
    private int[] waysBehind = new int[SETS];
    private int drawn;

    public RaftHold() {
        for (int i = 0; i < trays.length; i++) {
            trays[i] = new Tray();
        }
        for (int i = 0; i < imageStates.length; i++) {
            imageStates[i] = new State();
        }
    }

    // ---- the raft

    public int feed(int a, int b, int c, int d, int e) {
        if (taped + FED_BYTES > MOST_BYTES) {
            return NOT_NOW;
        }
        putBytes(a);
        putBytes(b);
        putBytes(c);
        putBytes(d);
        putBytes(e);
        return taped;
    }

    public int raft(int n) {
        if (n < 0 || n > taped) {
            return BAD_NUMBER;
        }
        Raft told = reader.read(tape, n);
        taped = 0;
        if (told == null) {
            return TEXT_FAULT - reader.fault;
        }
        raft = told;
        now.begin(told);
        past.forget();
        return told.lines;
    }

    public int fault(int what) {
        if (what == 0) {
            return reader.fault;
        }
        return what == 1 ? reader.place : NONE;
    }

    public int holder(int p, int what) {
        if (!isPerson(p)) {
            return NO_SUCH;
        }
        switch (what) {
            case 0:
                return now.hold >> p & 1;
            case 1:
                return now.bears[p];
            case 2:
                return raft.weight[p];
            case 3:
                return raft.votes[p];
            case 4:
                return raft.beside[p];
            case 5:
                return raft.quarrels[p];
            case 10:
            case 11:
            case 12:
                return raft.liking(p, what - 10);
            default:
                return NO_SUCH;
        }
    }

    public int lets(int p) {
        if (!isPerson(p)) {
            return NO_SUCH;
        }
        sea.attend(raft, now);
        return sea.leaves(p, now.hold) ? 1 : 0;
    }

    public int floats(int set) {
        if (!isSet(set)) {
            return BAD_NUMBER;
        }
        return carried(now, set);
    }

    public int pieces(int set) {
        return isSet(set) ? raft.pieceCount(set) : BAD_NUMBER;
    }

    // ---- deeds

    public int weeks(int n) {
        if (n < 1 || n > MOST_WEEKS) {
            return BAD_NUMBER;
        }
        past.remember(now);
        sea.attend(raft, now);
        for (int i = 0; i < n; i++) {
            now.hold = sea.afterWeek(now.hold);
        }
        now.weeks += n;
        return now.hold;
    }

    public int go(int p) {
        return letGoOrTake(p, 1);
    }

    public int take(int p) {
        return letGoOrTake(p, 0);
    }

    public int mend(int p, int n) {
        if (!isPerson(p) || n < 0 || n >= DIGITS) {
            return WHY_NOT - 1;
        }
        int bore = now.bears[p];
        past.remember(now);
        now.bears[p] = n;
        return bore;
    }

    public int storm(int n) {
        if (n < 0 || n >= DIGITS) {
            return WHY_NOT - 1;
        }
        int was = now.storm;
        past.remember(now);
        now.storm = n;
        return was;
    }

    public int undo(int n) {
        if (n < 1 || n > past.size) {
            return BAD_NUMBER;
        }
        past.bringBack(n, now);
        return past.size;
    }

    public int judge(int tray, int what) {
        if (!isTray(tray) || what < 0 || what > 3) {
            return NO_SUCH;
        }
        Tray told = trays[tray];
        if (told.isMissing()) {
            return TRAY_MISSING;
        }
        trial.copy(now);
        int place = NONE;
        int why = 0;
        for (int i = 0; i < told.size && why == 0; i++) {
            why = tryDeed(trial, told.valueAt(i));
            place = why == 0 ? NONE : i;
        }
        switch (what) {
            case 0:
                return place;
            case 1:
                return why;
            case 2:
                return trial.hold;
            default:
                return carried(trial, trial.hold);
        }
    }

    public int perform(int tray) {
        if (!isTray(tray)) {
            return NO_SUCH;
        }
        Tray told = trays[tray];
        if (told.isMissing()) {
            return TRAY_MISSING;
        }
        before.copy(now);
        int done = 0;
        while (done < told.size && tryDeed(now, told.valueAt(done)) == 0) {
            done++;
        }
        if (done > 0) {
            past.remember(before);
        }
        return done;
    }

    public int year(int seed, int times) {
        if (times < 1 || times > MOST_NUMBERS) {
            return BAD_NUMBER;
        }
        before.copy(now);
        drawn = seed;
        int done = 0;
        for (int i = 0; i < times; i++) {
            if (tryDeed(now, drawDeed()) == 0) {
                done++;
            }
        }
        if (done > 0) {
            past.remember(before);
        }
        return done;
    }

    // ---- settling

    public int settles(int set, int what) {
        if (!isOneOfTwo(what)) {
            return NO_SUCH;
        }
        if (!isSet(set)) {
            return BAD_NUMBER;
        }
        sea.attend(raft, now);
        return what == 0 ? sea.settled(set) : sea.weeksToSettle(set);
    }

    public int when(int p) {
        if (!isPerson(p)) {
            return NO_SUCH;
        }
        sea.attend(raft, now);
        int bit = 1 << p;
        int set = now.hold;
        for (int week = 1; week <= MOST_PEOPLE && (set & bit) != 0; week++) {
            set = sea.afterWeek(set);
            if ((set & bit) == 0) {
                return week;
            }
        }
        return NONE;
    }

    public int sinks() {
        sea.attend(raft, now);
        return sea.weekOfSinking(now.hold);
    }

    public int steady() {
        sea.attend(raft, now);
        int found = 0;
        for (int set = 0; set <= raft.everybody(); set++) {
            if (sea.afterWeek(set) == set) {
                found++;
            }
        }
        return found;
    }

    // ---- fewest

    public int starts(int kind, int what) {
        if (!isOneOfTwo(kind) || !isOneOfTwo(what)) {
            return NO_SUCH;
        }
        sea.attend(raft, now);
        int fewest = NONE;
        for (int set = 0; set <= now.hold; set++) {
            if ((set & ~now.hold) == 0 && isFewer(set, fewest) && isStart(kind, set)) {
                fewest = set;
            }
        }
        return toldSet(fewest, what);
    }

    public int spark(int what) {
        if (!isOneOfTwo(what)) {
            return NO_SUCH;
        }
        sea.attend(raft, now);
        int first = NONE;
        int fewest = NONE;
        for (int p = 0; p < raft.people; p++) {
            if ((now.hold >> p & 1) != 0) {
                int left = Integer.bitCount(sea.settled(now.hold & ~(1 << p)));
                if (first == NONE || left < fewest) {
                    first = p;
                    fewest = left;
                }
            }
        }
        return what == 0 ? first : fewest;
    }

    public int cut(int p, int q, int what) {
        if (!isPerson(p) || !isPerson(q) || p == q || !isOneOfTwo(what)) {
            return NO_SUCH;
        }
        int two = 1 << p | 1 << q;
        if ((now.hold & two) != two) {
            return NOT_NOW;
        }
        int others = now.hold & ~two;
        int fewest = NONE;
        for (int set = 0; set <= others; set++) {
            if ((set & ~others) == 0 && isFewer(set, fewest)
                    && (raft.pieceOf(p, now.hold & ~set) >> q & 1) == 0) {
                fewest = set;
            }
        }
        return toldSet(fewest, what);
    }

    public int least(int what) {
        if (!isOneOfTwo(what)) {
            return NO_SUCH;
        }
        sea.attend(raft, now);
        int fewest = NONE;
        for (int set = 0; set <= raft.everybody(); set++) {
            if (isFewer(set, fewest) && sea.carries(set)) {
                fewest = set;
            }
        }
        return toldSet(fewest, what);
    }

    public int needed() {
        sea.attend(raft, now);
        int found = 0;
        if (!sea.carries(now.hold)) {
            return found;
        }
        for (int p = 0; p < raft.people; p++) {
            int bit = 1 << p;
            if ((now.hold & bit) != 0 && !sea.carries(now.hold & ~bit)) {
                found |= bit;
            }
        }
        return found;
    }

    // ---- votes

    public int power(int p, int what) {
        if (!isPerson(p) || !isOneOfTwo(what)) {
            return NO_SUCH;
        }
        long deciding = 0;
        for (int set = 0; set <= raft.everybody(); set++) {
            if (raft.isSwing(p, set)) {
                int ahead = Integer.bitCount(set);
                deciding += (long) ordersOf(ahead) * ordersOf(raft.people - 1 - ahead);
            }
        }
        return fraction(deciding, ordersOf(raft.people), what);
    }

    public int dummies() {
        int found = 0;
        for (int p = 0; p < raft.people; p++) {
            if (raft.swingCount(p) == 0) {
                found |= 1 << p;
            }
        }
        return found;
    }

    public int swings(int p) {
        return isPerson(p) ? raft.swingCount(p) : NO_SUCH;
    }

    public int winning(int what) {
        if (!isOneOfTwo(what)) {
            return NO_SUCH;
        }
        int found = 0;
        int smallest = NONE;
        for (int set = 0; set <= raft.everybody(); set++) {
            if (raft.justWins(set)) {
                found++;
                int size = Integer.bitCount(set);
                smallest = smallest == NONE ? size : Math.min(smallest, size);
            }
        }
        return what == 0 ? found : smallest;
    }

    public int beats(int i, int j) {
        if (!isIsland(i) || !isIsland(j)) {
            return NO_SUCH;
        }
        return Integer.compare(raft.votesFor(i, j), raft.votesFor(j, i));
    }

    public int island(int what) {
        if (!isOneOfTwo(what)) {
            return NO_SUCH;
        }
        if (what == 1) {
            return goRound() ? 1 : 0;
        }
        for (int i = 0; i < ISLANDS; i++) {
            if (beatsNext(i) && beatsNextButOne(i)) {
                return i;
            }
        }
        return NONE;
    }

    // ---- places

    public int placing(int what) {
        if (what != 0 && (what < 10 || what >= 10 + raft.people)) {
            return NO_SUCH;
        }
        places.seek(raft);
        return what == 0 ? raft.placedQuarrels : raft.place[what - 10];
    }

    public int quarrels() {
        int both = 0;
        for (int p = 0; p < raft.people; p++) {
            both += Integer.bitCount(raft.beside[p] & raft.quarrels[p]);
        }
        return both / 2;
    }

    // ---- tested

    public int bearings(int tray, int p) {
        int refusal = refuseTests(tray, isPerson(p));
        return refusal != 0 ? refusal : bearable(trays[tray], p);
    }

    public int storms(int tray) {
        int refusal = refuseTests(tray, true);
        if (refusal != 0) {
            return refusal;
        }
        trial.copy(now);
        int found = 0;
        for (int storm = 0; storm < DIGITS; storm++) {
            trial.storm = storm;
            if (fitsTests(trays[tray])) {
                found |= 1 << storm;
            }
        }
        return found;
    }

    public int attempt(int tray, int p) {
        int refusal = refuseTests(tray, isPerson(p));
        if (refusal != 0) {
            return refusal;
        }
        int can = bearable(trays[tray], p);
        if (can == 0) {
            return NONE;
        }
        countFloating(p, can);
        int most = Integer.bitCount(can);
        int first = 0;
        int least = most + 1;
        for (int set = 0; set <= raft.everybody(); set++) {
            int greater = Math.max(ways[set], most - ways[set]);
            if (greater < least) {
                least = greater;
                first = set;
            }
        }
        return first;
    }

    // ---- by turns

    public int sides(int set) {
        int refusal = refuseTurns(set);
        if (refusal != 0) {
            return refusal;
        }
        sea.foresee(now.hold);
        turns.play(now.hold, set);
        return turns.outcome(now.hold);
    }

    public int best(int set) {
        int refusal = refuseTurns(set);
        if (refusal != 0) {
            return refusal;
        }
        sea.foresee(now.hold);
        turns.play(now.hold, set);
        return turns.bestFirst(now.hold, set);
    }

    // ---- chances

    public int chance(int n, int what) {
        int refusal = refuseChance(n, what);
        if (refusal != 0) {
            return refusal;
        }
        long below = drawLots(n);
        long above = 0;
        for (int set = 0; set <= now.hold; set++) {
            if (ways[set] > 0 && sea.carries(set)) {
                above += ways[set];
            }
        }
        return fraction(above, below, what);
    }

    public int mean(int n, int what) {
        int refusal = refuseChance(n, what);
        if (refusal != 0) {
            return refusal;
        }
        long below = drawLots(n);
        long above = 0;
        for (int set = 0; set <= now.hold; set++) {
            above += (long) ways[set] * Integer.bitCount(set);
        }
        return fraction(above, below, what);
    }

    // ---- trays, images

    public int numbers(int tray, int sort, int n) {
        if (!isTray(tray) || sort < 0 || sort > 3) {
            return NO_SUCH;
        }
        if (n < 0 || n > MOST_NUMBERS) {
            return BAD_NUMBER;
        }
        trays[tray].lay(sort, n);
        return 0;
    }

    public long write(int tray, int i, long v) {
        if (!isTray(tray)) {
            return NO_SUCH;
        }
        Tray told = trays[tray];
        if (told.isMissing()) {
            return TRAY_MISSING;
        }
        if (i < 0 || i >= told.size) {
            return NO_PLACE;
        }
        told.put(i, v);
        return told.valueAt(i);
    }

    public int lists(int tray) {
        if (!isTray(tray)) {
            return NO_SUCH;
        }
        Tray told = trays[tray];
        if (told.isMissing()) {
            return TRAY_MISSING;
        }
        sea.attend(raft, now);
        int set = now.hold;
        for (int i = 0; i < told.size; i++) {
            set = sea.afterWeek(set);
            told.put(i, set);
        }
        return told.size;
    }

    public int image(int i) {
        if (i < 0 || i >= IMAGES) {
            return NO_SUCH;
        }
        imageRafts[i] = raft;
        imageStates[i].copy(now);
        return 0;
    }

    public int restore(int i) {
        if (i < 0 || i >= IMAGES) {
            return NO_SUCH;
        }
        Raft kept = imageRafts[i];
        if (kept == null) {
            return NOT_NOW;
        }
        raft = kept;
        now.copy(imageStates[i]);
        past.forget();
        return 0;
    }

    public int count(int what) {
        switch (what) {
            case 0:
                return raft.people;
            case 1:
                return raft.quota;
            case 2:
                return now.hold;
            case 3:
                return now.bearingOf(now.hold);
            case 4:
                return raft.allWeights();
            case 5:
                return carried(now, now.hold);
            case 6:
                return now.storm;
            case 7:
                return now.weeks;
            case 8:
                return past.size;
            case 9:
                return taped;
            case 10:
                return raft.lines;
            default:
                return NONE;
        }
    }

    // ---- what the calls share

    private boolean isPerson(int p) {
        return p >= 0 && p < raft.people;
    }

    private boolean isSet(int set) {
        return (set & ~raft.everybody()) == 0;
    }

    private static boolean isTray(int tray) {
        return tray >= 0 && tray < TRAYS;
    }

    private static boolean isIsland(int i) {
        return i >= 0 && i < ISLANDS;
    }

    private static boolean isOneOfTwo(int what) {
        return what == 0 || what == 1;
    }

    private void putBytes(int word) {
        for (int shift = 24; shift >= 0; shift -= 8) {
            if (taped < tape.length) {
                tape[taped] = (byte) (word >>> shift);
                taped++;
            }
        }
    }

    private int carried(State state, int set) {
        sea.attend(raft, state);
        return sea.carries(set) ? 1 : 0;
    }

    private int letGoOrTake(int p, int from) {
        before.copy(now);
        int why = changeHold(now, p, from);
        if (why != 0) {
            return WHY_NOT - why;
        }
        past.remember(before);
        return carried(now, now.hold);
    }

    /** Does a deed as a tray tells it; the answer is why it can't be, 0 if it was done. */
    private int tryDeed(State state, long deed) {
        if (deed == 0) {
            passWeek(state);
            return 0;
        }
        if (deed >= GO_DEED && deed < GO_DEED + DIGITS) {
            return changeHold(state, (int) deed - GO_DEED, 1);
        }
        if (deed >= TAKE_DEED && deed < TAKE_DEED + DIGITS) {
            return changeHold(state, (int) deed - TAKE_DEED, 0);
        }
        if (deed >= STORM_DEED && deed < STORM_DEED + DIGITS) {
            state.storm = (int) deed - STORM_DEED;
            return 0;
        }
        if (deed >= MEND_DEED && deed < MEND_DEED + DIGITS * DIGITS) {
            int told = (int) deed - MEND_DEED;
            return mendPart(state, told / DIGITS, told % DIGITS);
        }
        return 1;
    }

    private void passWeek(State state) {
        sea.attend(raft, state);
        state.hold = sea.afterWeek(state.hold);
        state.weeks++;
    }

    private int changeHold(State state, int p, int from) {
        if (!isPerson(p)) {
            return 1;
        }
        if ((state.hold >> p & 1) != from) {
            return 2;
        }
        state.hold ^= 1 << p;
        return 0;
    }

    private int mendPart(State state, int p, int bears) {
        if (!isPerson(p)) {
            return 1;
        }
        state.bears[p] = bears;
        return 0;
    }

    private int nextDraw() {
        drawn = drawn * 1103515245 + 12345;
        return drawn >>> 16;
    }

    private int drawDeed() {
        switch (nextDraw() % 6) {
            case 0:
            case 1:
                return 0;
            case 2:
                return GO_DEED + nextDraw() % MOST_PEOPLE;
            case 3:
                return TAKE_DEED + nextDraw() % MOST_PEOPLE;
            case 4:
                return STORM_DEED + nextDraw() % DIGITS;
            default:
                int p = nextDraw() % MOST_PEOPLE;
                return MEND_DEED + DIGITS * p + nextDraw() % DIGITS;
        }
    }

    private boolean isStart(int kind, int set) {
        int left = now.hold & ~set;
        if (kind == 0) {
            return sea.weekOfSinking(left) != NONE;
        }
        return sea.settled(left) == 0;
    }

    /** Sets are tried upwards, so of like ones the least is kept. */
    private static boolean isFewer(int set, int fewest) {
        return fewest == NONE || Integer.bitCount(set) < Integer.bitCount(fewest);
    }

    private static int toldSet(int set, int what) {
        if (set == NONE || what == 1) {
            return set;
        }
        return Integer.bitCount(set);
    }

    private static int ordersOf(int n) {
        return n >= 0 && n < ORDERS.length ? ORDERS[n] : 0;
    }

    private static int fraction(long above, long below, int what) {
        long shared = commonDivisor(above, below);
        if (shared == 0) {
            return 0;
        }
        return (int) ((what == 0 ? above : below) / shared);
    }

    private static long commonDivisor(long a, long b) {
        long large = a;
        long small = b;
        for (int i = 0; i < 100 && small != 0; i++) {
            long rest = large % small;
            large = small;
            small = rest;
        }
        return large;
    }

    private boolean beatsNext(int i) {
        int next = (i + 1) % ISLANDS;
        return raft.votesFor(i, next) > raft.votesFor(next, i);
    }

    private boolean beatsNextButOne(int i) {
        int other = (i + 2) % ISLANDS;
        return raft.votesFor(i, other) > raft.votesFor(other, i);
    }

    private boolean goRound() {
        boolean upwards = beatsNext(0) && beatsNext(1) && beatsNext(2);
        boolean downwards = beatsNextButOne(0) && beatsNextButOne(1) && beatsNextButOne(2);
        return upwards || downwards;
    }

    private int refuseTests(int tray, boolean whoIsThere) {
        if (!isTray(tray) || !whoIsThere) {
            return NO_SUCH;
        }
        Tray told = trays[tray];
        if (told.isMissing()) {
            return TRAY_MISSING;
        }
        if (told.size < 1 || told.size > MOST_TESTS) {
            return TOO_MANY;
        }
        long most = 2L * raft.everybody() + 1;
        for (int i = 0; i < told.size; i++) {
            if (told.valueAt(i) < 0 || told.valueAt(i) > most) {
                return BAD_NUMBER;
            }
        }
        return 0;
    }

    private boolean fitsTests(Tray told) {
        sea.attend(raft, trial);
        for (int i = 0; i < told.size; i++) {
            int test = (int) told.valueAt(i);
            if (sea.carries(test >> 1) != ((test & 1) == 1)) {
                return false;
            }
        }
        return true;
    }

    private int bearable(Tray told, int p) {
        if (!isPerson(p)) {
            return 0;
        }
        trial.copy(now);
        int found = 0;
        for (int bears = 0; bears < DIGITS; bears++) {
            trial.bears[p] = bears;
            if (fitsTests(told)) {
                found |= 1 << bears;
            }
        }
        return found;
    }

    private void countFloating(int p, int can) {
        Arrays.fill(ways, 0);
        if (!isPerson(p)) {
            return;
        }
        trial.copy(now);
        for (int bears = 0; bears < DIGITS; bears++) {
            if ((can >> bears & 1) != 0) {
                trial.bears[p] = bears;
                sea.attend(raft, trial);
                countCarried();
            }
        }
    }

    private void countCarried() {
        for (int set = 0; set <= raft.everybody(); set++) {
            if (sea.carries(set)) {
                ways[set]++;
            }
        }
    }

    private int refuseTurns(int set) {
        if (!isSet(set)) {
            return BAD_NUMBER;
        }
        return carried(now, now.hold) == 1 ? 0 : NOT_NOW;
    }

    private static int refuseChance(int n, int what) {
        if (!isOneOfTwo(what)) {
            return NO_SUCH;
        }
        return n < 0 || n > MOST_CHANCE_WEEKS ? BAD_NUMBER : 0;
    }

    /** In how many ways of drawing each set holds behind n weeks; the answer is how many ways there are. */
    private long drawLots(int n) {
        sea.attend(raft, now);
        Arrays.fill(ways, 0);
        ways[now.hold & SETS - 1] = 1;
        long all = 1;
        for (int week = 0; week < n; week++) {
            drawLot();
            all *= LOTS;
        }
        return all;
    }

    private void drawLot() {
        Arrays.fill(waysBehind, 0);
        for (int set = 0; set <= now.hold; set++) {
            if (ways[set] > 0) {
                spreadLots(sea.afterWeek(set), ways[set]);
            }
        }
        int[] emptied = ways;
        ways = waysBehind;
        waysBehind = emptied;
    }

    private void spreadLots(int set, int weight) {
        waysBehind[set] += weight * (LOTS - Integer.bitCount(set));
        for (int p = 0; p < raft.people; p++) {
            int bit = 1 << p;
            if ((set & bit) != 0) {
                waysBehind[set & ~bit] += weight;
            }
        }
    }

    /** The kinds of tokens; a sign's kind is its byte. */
    private static final class Kind {
        static final int END = 0;
        static final int NUMBER = 1;
        static final int NO_TOKEN = 2;
        static final int OTHER_WORD = 128;
        static final int RAFT = 129;
        static final int QUOTA = 130;
        static final int HOLDER = 131;
        static final int BEARS = 132;
        static final int WEIGHT = 133;
        static final int LOOSE = 134;
        static final int VOTES = 135;
        static final int LIKES = 136;
        static final int BY = 137;
        static final int QUARREL = 138;
        static final int STORM = 139;
        static final int LETS = 140;
        static final int FLOATS = 141;
        static final int NOT = 142;
        static final int AND = 143;
        static final int OR = 144;
        static final int ALL = 145;
        static final int WHO = 146;
        static final int NEAR = 147;
        static final int GONE = 148;
        static final int PARTS = 149;
    }

    /** A text cut into tokens, up to the first place where none begins. */
    private static final class Tokens {
        private static final String SIGNS = ";:+-*()[]=<>";
        private final int[] kinds = new int[MOST_BYTES + 1];
        private final int[] starts = new int[MOST_BYTES + 1];
        private final int[] values = new int[MOST_BYTES + 1];
        private byte[] bytes = new byte[0];
        private int length;
        private int size;
        private int at;

        int kind() {
            return at < size ? kinds[at] : Kind.END;
        }

        int start() {
            return at < size ? starts[at] : length;
        }

        int value() {
            return at < size ? values[at] : 0;
        }

        void advance() {
            if (at < size) {
                at++;
            }
        }

        void cutUp(byte[] tape, int n) {
            bytes = tape;
            length = Math.min(n, tape.length);
            size = 0;
            at = 0;
            int place = 0;
            while (place < length && size < kinds.length) {
                int sign = bytes[place];
                if (isBlank(sign)) {
                    place++;
                } else {
                    int behind = cutOne(sign, place);
                    if (behind <= place) {
                        return;
                    }
                    place = behind;
                }
            }
        }

        /** Answers the place behind the token, or its own place if none begins there. */
        private int cutOne(int sign, int place) {
            if (isLetter(sign)) {
                int behind = place + 1;
                while (behind < length && isLetter(bytes[behind])) {
                    behind++;
                }
                keep(wordKind(place, behind), place, 0);
                return behind;
            }
            if (isDigit(sign)) {
                return cutNumber(place);
            }
            if (sign > 0 && SIGNS.indexOf((char) sign) >= 0) {
                keep(sign, place, 0);
                return place + 1;
            }
            keep(Kind.NO_TOKEN, place, 0);
            return place;
        }

        private int cutNumber(int place) {
            int behind = place;
            int value = 0;
            while (behind < length && isDigit(bytes[behind])) {
                if (behind - place >= 3) {
                    keep(Kind.NO_TOKEN, place, 0);
                    return place;
                }
                value = value * 10 + bytes[behind] - '0';
                behind++;
            }
            keep(Kind.NUMBER, place, value);
            return behind;
        }

        private void keep(int kind, int place, int value) {
            if (size < kinds.length) {
                kinds[size] = kind;
                starts[size] = place;
                values[size] = value;
                size++;
            }
        }

        private int wordKind(int from, int to) {
            int line = lineWordKind(from, to);
            return line != Kind.OTHER_WORD ? line : lawWordKind(from, to);
        }

        private int lineWordKind(int from, int to) {
            if (spells("raft", from, to)) {
                return Kind.RAFT;
            } else if (spells("quota", from, to)) {
                return Kind.QUOTA;
            } else if (spells("holder", from, to)) {
                return Kind.HOLDER;
            } else if (spells("bears", from, to)) {
                return Kind.BEARS;
            } else if (spells("weight", from, to)) {
                return Kind.WEIGHT;
            } else if (spells("loose", from, to)) {
                return Kind.LOOSE;
            } else if (spells("votes", from, to)) {
                return Kind.VOTES;
            } else if (spells("likes", from, to)) {
                return Kind.LIKES;
            } else if (spells("by", from, to)) {
                return Kind.BY;
            } else if (spells("quarrel", from, to)) {
                return Kind.QUARREL;
            } else if (spells("storm", from, to)) {
                return Kind.STORM;
            } else if (spells("lets", from, to)) {
                return Kind.LETS;
            } else if (spells("floats", from, to)) {
                return Kind.FLOATS;
            }
            return Kind.OTHER_WORD;
        }

        private int lawWordKind(int from, int to) {
            if (spells("not", from, to)) {
                return Kind.NOT;
            } else if (spells("and", from, to)) {
                return Kind.AND;
            } else if (spells("or", from, to)) {
                return Kind.OR;
            } else if (spells("all", from, to)) {
                return Kind.ALL;
            } else if (spells("who", from, to)) {
                return Kind.WHO;
            } else if (spells("near", from, to)) {
                return Kind.NEAR;
            } else if (spells("gone", from, to)) {
                return Kind.GONE;
            } else if (spells("parts", from, to)) {
                return Kind.PARTS;
            }
            return Kind.OTHER_WORD;
        }

        private boolean spells(String word, int from, int to) {
            if (word.length() != to - from) {
                return false;
            }
            for (int i = from; i < to; i++) {
                if (bytes[i] != word.charAt(i - from)) {
                    return false;
                }
            }
            return true;
        }

        private static boolean isBlank(int sign) {
            return sign == 10 || sign == 32;
        }

        private static boolean isLetter(int sign) {
            return sign >= 'a' && sign <= 'z';
        }

        private static boolean isDigit(int sign) {
            return sign >= '0' && sign <= '9';
        }
    }

    /** Reads a raft line by line, up to its first fault. */
    private static final class Reader {
        private static final int CANT_BEGIN = 1;
        private static final int CANT_STAND = 2;
        private static final int OUT_OF_BOUNDS = 3;
        private static final int TOO_DEEP_OR_MANY = 4;

        private final Tokens tokens = new Tokens();
        private final LawReader law = new LawReader(tokens);
        private Raft raft = new Raft();
        private int got;
        private int fault;
        private int place = NONE;

        /** Null if there is a fault. */
        Raft read(byte[] tape, int n) {
            tokens.cutUp(tape, n);
            raft = new Raft();
            fault = 0;
            place = NONE;
            boolean isFine = raftLine();
            for (int i = 0; i < tokens.size && isFine && tokens.kind() != Kind.END; i++) {
                switch (tokens.kind()) {
                    case Kind.HOLDER:
                        isFine = holderLine();
                        break;
                    case Kind.BY:
                        isFine = pairLine(raft.beside);
                        break;
                    case Kind.QUARREL:
                        isFine = pairLine(raft.quarrels);
                        break;
                    case Kind.STORM:
                        isFine = stormLine();
                        break;
                    case Kind.LETS:
                    case Kind.FLOATS:
                        isFine = lawLine(tokens.kind());
                        break;
                    default:
                        isFine = refuse(CANT_STAND);
                        break;
                }
                isFine = isFine && pass(';');
                raft.lines++;
            }
            return isFine ? raft : null;
        }

        private boolean raftLine() {
            if (!pass(Kind.RAFT) || !pass(Kind.QUOTA) || !number(1, 99)) {
                return false;
            }
            raft.quota = got;
            raft.lines = 1;
            return pass(';');
        }

        private boolean holderLine() {
            int p = raft.people;
            if (p >= MOST_PEOPLE) {
                return refuse(TOO_DEEP_OR_MANY);
            }
            tokens.advance();
            if (!pass(Kind.BEARS) || !number(0, 9)) {
                return false;
            }
            raft.bears[p] = got;
            if (!pass(Kind.WEIGHT) || !number(0, 9)) {
                return false;
            }
            raft.weight[p] = got;
            raft.votes[p] = 1;
            raft.hold |= 1 << p;
            raft.people++;
            for (int i = 0; i < tokens.size && isFlag(tokens.kind()); i++) {
                if (!flag(p)) {
                    return false;
                }
            }
            return true;
        }

        private static boolean isFlag(int kind) {
            return kind == Kind.LOOSE || kind == Kind.VOTES || kind == Kind.LIKES;
        }

        private boolean flag(int p) {
            int kind = tokens.kind();
            tokens.advance();
            if (kind == Kind.LOOSE) {
                raft.hold &= ~(1 << p);
                return true;
            }
            if (kind == Kind.VOTES) {
                if (!number(0, 9)) {
                    return false;
                }
                raft.votes[p] = got;
                return true;
            }
            for (int i = 0; i < ISLANDS; i++) {
                if (!number(0, 9)) {
                    return false;
                }
                raft.likes[p * ISLANDS + i] = got;
            }
            return true;
        }

        private boolean pairLine(int[] others) {
            tokens.advance();
            if (!number(0, raft.people - 1)) {
                return false;
            }
            int p = got;
            if (tokens.kind() == Kind.NUMBER && tokens.value() == p) {
                return refuse(OUT_OF_BOUNDS);
            }
            if (!number(0, raft.people - 1)) {
                return false;
            }
            others[p] |= 1 << got;
            others[got] |= 1 << p;
            return true;
        }

        private boolean stormLine() {
            tokens.advance();
            if (!number(0, 9)) {
                return false;
            }
            raft.storm = got;
            return true;
        }

        private boolean lawLine(int kind) {
            tokens.advance();
            if (!pass(':')) {
                return false;
            }
            int ended = law.read(kind);
            if (ended == LawReader.TOO_DEEP) {
                return refuse(TOO_DEEP_OR_MANY);
            }
            if (ended != LawReader.READ) {
                return refuse(CANT_STAND);
            }
            if (kind == Kind.LETS) {
                raft.letsLaw = law.copy();
            } else {
                raft.floatsLaw = law.copy();
            }
            return true;
        }

        private boolean pass(int kind) {
            if (tokens.kind() != kind) {
                return refuse(CANT_STAND);
            }
            tokens.advance();
            return true;
        }

        private boolean number(int low, int high) {
            if (tokens.kind() != Kind.NUMBER) {
                return refuse(CANT_STAND);
            }
            if (tokens.value() < low || tokens.value() > high) {
                return refuse(OUT_OF_BOUNDS);
            }
            got = tokens.value();
            tokens.advance();
            return true;
        }

        private boolean refuse(int kind) {
            fault = tokens.kind() == Kind.NO_TOKEN ? CANT_BEGIN : kind;
            place = tokens.start();
            return false;
        }
    }

    /**
     * Turns a law into a row that is reckoned from left to right: what is joined stands ahead of what
     * joins it, so neither reading nor reckoning needs recursion. Numbers stand as they are, all else
     * as its kind and WORD.
     */
    private static final class LawReader {
        static final int READ = 0;
        static final int CANT_STAND = -2;
        static final int TOO_DEEP = -4;
        static final int WORD = 1000;
        private static final int MOST_DEEP = 6;
        private static final int AT_UNIT = 1;
        private static final int AT_ATOM = 2;
        private static final int BEHIND_ATOM = 3;
        private static final int BEHIND_UNIT = 4;

        private final Tokens tokens;
        private final int[] row = new int[MOST_BYTES];
        private int size;
        private final int[] waiting = new int[64];
        private int waits;
        private int lawKind;

        LawReader(Tokens tokens) {
            this.tokens = tokens;
        }

        int[] copy() {
            return Arrays.copyOf(row, size);
        }

        /** Stops at the sign behind the law, or at the token that is at fault. */
        int read(int kind) {
            lawKind = kind;
            size = 0;
            waits = 0;
            int position = AT_UNIT;
            for (int i = 0; i <= tokens.size && position > READ; i++) {
                if (position == AT_UNIT || position == AT_ATOM) {
                    position = begin(position);
                } else {
                    position = goOn(position);
                }
            }
            return position;
        }

        private int begin(int position) {
            int kind = tokens.kind();
            if (kind == Kind.NUMBER || isAtomWord(kind)) {
                emit(kind == Kind.NUMBER ? tokens.value() : WORD + kind);
                tokens.advance();
                return BEHIND_ATOM;
            }
            boolean opensUnit = position == AT_UNIT && (kind == Kind.NOT || kind == '[');
            if (kind != '(' && !opensUnit) {
                return CANT_STAND;
            }
            if (depth() >= MOST_DEEP) {
                return TOO_DEEP;
            }
            return await(kind, kind == '(' ? AT_ATOM : AT_UNIT);
        }

        private int goOn(int position) {
            int kind = tokens.kind();
            switch (kind) {
                case '+':
                case '-':
                case '*':
                    return position == BEHIND_ATOM ? join(kind, AT_ATOM) : CANT_STAND;
                case '=':
                case '<':
                case '>':
                    boolean first = position == BEHIND_ATOM && bracket() != '(' && !isCompared();
                    return first ? join(kind, AT_ATOM) : CANT_STAND;
                case Kind.AND:
                case Kind.OR:
                    return isWhole(position) ? join(kind, AT_UNIT) : CANT_STAND;
                case ')':
                    return bracket() == '(' ? close(BEHIND_ATOM) : CANT_STAND;
                case ']':
                    return bracket() == '[' && isWhole(position) ? close(BEHIND_UNIT) : CANT_STAND;
                case ';':
                    if (bracket() != 0 || !isWhole(position)) {
                        return CANT_STAND;
                    }
                    pour(0);
                    return READ;
                default:
                    return CANT_STAND;
            }
        }

        private boolean isAtomWord(int kind) {
            switch (kind) {
                case Kind.ALL:
                case Kind.STORM:
                case Kind.BEARS:
                case Kind.WEIGHT:
                    return true;
                case Kind.WHO:
                case Kind.NEAR:
                case Kind.GONE:
                    return lawKind == Kind.LETS;
                case Kind.PARTS:
                    return lawKind == Kind.FLOATS;
                default:
                    return false;
            }
        }

        private boolean isWhole(int position) {
            return position == BEHIND_UNIT || bracket() != '(' && isCompared();
        }

        /** The innermost open bracket, 0 if none is. */
        private int bracket() {
            for (int i = waits - 1; i >= 0; i--) {
                if (isBracket(waiting[i])) {
                    return waiting[i];
                }
            }
            return 0;
        }

        private boolean isCompared() {
            for (int i = waits - 1; i >= 0 && !isBracket(waiting[i]); i--) {
                if (rank(waiting[i]) == 4) {
                    return true;
                }
            }
            return false;
        }

        private int depth() {
            int found = 0;
            for (int i = 0; i < waits; i++) {
                if (waiting[i] == Kind.NOT || isBracket(waiting[i])) {
                    found++;
                }
            }
            return found;
        }

        private int join(int kind, int position) {
            pour(rank(kind));
            return await(kind, position);
        }

        private int await(int kind, int position) {
            if (waits >= waiting.length) {
                return TOO_DEEP;
            }
            waiting[waits] = kind;
            waits++;
            tokens.advance();
            return position;
        }

        private int close(int position) {
            pour(0);
            if (waits > 0) {
                waits--;
            }
            tokens.advance();
            return position;
        }

        /** What binds at least so closely is joined now, up to the innermost bracket. */
        private void pour(int rank) {
            while (waits > 0 && !isBracket(waiting[waits - 1]) && rank(waiting[waits - 1]) >= rank) {
                waits--;
                emit(WORD + waiting[waits]);
            }
        }

        private void emit(int code) {
            if (size < row.length) {
                row[size] = code;
                size++;
            }
        }

        private static boolean isBracket(int kind) {
            return kind == '(' || kind == '[';
        }

        private static int rank(int kind) {
            switch (kind) {
                case Kind.OR:
                    return 1;
                case Kind.AND:
                    return 2;
                case Kind.NOT:
                    return 3;
                case '=':
                case '<':
                case '>':
                    return 4;
                case '+':
                case '-':
                    return 5;
                case '*':
                    return 6;
                default:
                    return 0;
            }
        }
    }

    /** What a text tells; it isn't changed once it is read, so images may share it. */
    private static final class Raft {
        private int people;
        private int quota = 1;
        private int lines;
        private int storm;
        private int hold;
        private final int[] bears = new int[MOST_PEOPLE];
        private final int[] weight = new int[MOST_PEOPLE];
        private final int[] votes = new int[MOST_PEOPLE];
        private final int[] likes = new int[MOST_PEOPLE * ISLANDS];
        private final int[] beside = new int[MOST_PEOPLE];
        private final int[] quarrels = new int[MOST_PEOPLE];
        private int[] letsLaw = new int[0];
        private int[] floatsLaw = new int[0];
        private boolean isPlaced;
        private int placedQuarrels;
        private final int[] place = new int[MOST_PEOPLE];

        int everybody() {
            return (1 << people) - 1;
        }

        int liking(int p, int island) {
            int at = p * ISLANDS + island;
            return at >= 0 && at < likes.length ? likes[at] : 0;
        }

        int allWeights() {
            int sum = 0;
            for (int p = 0; p < people; p++) {
                sum += weight[p];
            }
            return sum;
        }

        int pieceCount(int set) {
            int rest = set;
            int found = 0;
            for (int p = 0; p < people; p++) {
                if ((rest >> p & 1) != 0) {
                    rest &= ~pieceOf(p, set);
                    found++;
                }
            }
            return found;
        }

        int pieceOf(int p, int set) {
            int reached = 1 << p & set;
            for (int round = 0; round < people; round++) {
                int grown = reached;
                for (int q = 0; q < people; q++) {
                    if ((grown >> q & 1) != 0) {
                        grown |= beside[q] & set;
                    }
                }
                if (grown == reached) {
                    break;
                }
                reached = grown;
            }
            return reached;
        }

        int votesOf(int set) {
            int sum = 0;
            for (int p = 0; p < people; p++) {
                if ((set >> p & 1) != 0) {
                    sum += votes[p];
                }
            }
            return sum;
        }

        boolean isSwing(int p, int set) {
            if ((set >> p & 1) != 0) {
                return false;
            }
            return votesOf(set) < quota && votesOf(set | 1 << p) >= quota;
        }

        int swingCount(int p) {
            int found = 0;
            for (int set = 0; set <= everybody(); set++) {
                if (isSwing(p, set)) {
                    found++;
                }
            }
            return found;
        }

        boolean justWins(int set) {
            if (votesOf(set) < quota) {
                return false;
            }
            for (int p = 0; p < people; p++) {
                if ((set >> p & 1) != 0 && votesOf(set & ~(1 << p)) >= quota) {
                    return false;
                }
            }
            return true;
        }

        int votesFor(int island, int other) {
            int sum = 0;
            for (int p = 0; p < people; p++) {
                if (liking(p, island) > liking(p, other)) {
                    sum += votes[p];
                }
            }
            return sum;
        }
    }

    /** All that deeds change. */
    private static final class State {
        private int hold;
        private int storm;
        private int weeks;
        private final int[] bears = new int[MOST_PEOPLE];

        void begin(Raft raft) {
            hold = raft.hold;
            storm = raft.storm;
            weeks = 0;
            System.arraycopy(raft.bears, 0, bears, 0, MOST_PEOPLE);
        }

        void copy(State other) {
            hold = other.hold;
            storm = other.storm;
            weeks = other.weeks;
            System.arraycopy(other.bears, 0, bears, 0, MOST_PEOPLE);
        }

        int bearingOf(int set) {
            int sum = 0;
            for (int p = 0; p < MOST_PEOPLE; p++) {
                if ((set >> p & 1) != 0) {
                    sum += bears[p];
                }
            }
            return sum;
        }
    }

    /** The laws at work, and what they told of each set as long as raft, storm and parts stay the same. */
    private static final class Sea {
        static final int SUNK = -1;
        private static final int UNKNOWN = -1;
        private static final int BOUND = 1000000;

        private Raft raft;
        private final State looked = new State();
        private final int[] after = new int[SETS];
        private final int[] floating = new int[SETS];
        private final int[] fates = new int[SETS];
        private final int[] stack = new int[64];
        private int all;
        private int who;
        private int near;
        private int gone;
        private int bearing;
        private int weighing;
        private int parts;

        Sea(Raft raft) {
            this.raft = raft;
            Arrays.fill(after, UNKNOWN);
            Arrays.fill(floating, UNKNOWN);
        }

        void attend(Raft other, State state) {
            if (raft == other && isLikeLooked(state)) {
                return;
            }
            raft = other;
            looked.copy(state);
            Arrays.fill(after, UNKNOWN);
            Arrays.fill(floating, UNKNOWN);
        }

        private boolean isLikeLooked(State state) {
            if (state.storm != looked.storm) {
                return false;
            }
            for (int p = 0; p < raft.people; p++) {
                if (state.bears[p] != looked.bears[p]) {
                    return false;
                }
            }
            return true;
        }

        boolean carries(int set) {
            if (raft.people == 0) {
                return true;
            }
            int at = set & SETS - 1;
            if (floating[at] == UNKNOWN) {
                floating[at] = weigh(at) ? 1 : 0;
            }
            return floating[at] == 1;
        }

        private boolean weigh(int set) {
            all = Integer.bitCount(set);
            bearing = looked.bearingOf(set);
            weighing = raft.allWeights();
            if (raft.floatsLaw.length == 0) {
                return bearing >= weighing;
            }
            parts = raft.pieceCount(set);
            return isTrue(raft.floatsLaw);
        }

        boolean leaves(int p, int set) {
            if (p < 0 || p >= raft.people || (set >> p & 1) == 0 || raft.letsLaw.length == 0) {
                return false;
            }
            all = Integer.bitCount(set);
            who = p;
            near = Integer.bitCount(raft.beside[p] & set);
            gone = Integer.bitCount(raft.beside[p] & ~set);
            bearing = looked.bears[p];
            weighing = raft.weight[p];
            return isTrue(raft.letsLaw);
        }

        int afterWeek(int set) {
            int at = set & SETS - 1;
            if (after[at] == UNKNOWN) {
                int left = at;
                for (int p = 0; p < raft.people; p++) {
                    if (leaves(p, at)) {
                        left &= ~(1 << p);
                    }
                }
                after[at] = left;
            }
            return after[at];
        }

        int weeksToSettle(int set) {
            int week = 0;
            int held = set;
            while (week < MOST_PEOPLE && afterWeek(held) != held) {
                held = afterWeek(held);
                week++;
            }
            return week;
        }

        int settled(int set) {
            int held = set;
            for (int week = 0; week < MOST_PEOPLE; week++) {
                held = afterWeek(held);
            }
            return held;
        }

        int weekOfSinking(int set) {
            int held = set;
            for (int week = 0; week <= MOST_PEOPLE; week++) {
                if (!carries(held)) {
                    return week;
                }
                held = afterWeek(held);
            }
            return NONE;
        }

        /** Where each set of some who hold settles, or SUNK; a week leaves a lesser set, whose fate is known. */
        void foresee(int hold) {
            for (int set = 0; set <= hold && set < SETS; set++) {
                if ((set & ~hold) == 0) {
                    int next = afterWeek(set);
                    if (!carries(set)) {
                        fates[set] = SUNK;
                    } else {
                        fates[set] = next == set ? set : fates[next];
                    }
                }
            }
        }

        int fateOf(int set) {
            return fates[set & SETS - 1];
        }

        private boolean isTrue(int[] law) {
            int top = 0;
            for (int i = 0; i < law.length; i++) {
                int code = law[i];
                if (code == LawReader.WORD + Kind.NOT) {
                    if (top > 0) {
                        stack[top - 1] = 1 - stack[top - 1];
                    }
                } else if (LawReader.rank(code - LawReader.WORD) > 0) {
                    if (top > 1) {
                        top--;
                        stack[top - 1] = joined(code - LawReader.WORD, stack[top - 1], stack[top]);
                    }
                } else if (top < stack.length) {
                    stack[top] = code < LawReader.WORD ? code : atom(code - LawReader.WORD);
                    top++;
                }
            }
            return stack[0] == 1;
        }

        private int atom(int kind) {
            switch (kind) {
                case Kind.ALL:
                    return all;
                case Kind.STORM:
                    return looked.storm;
                case Kind.BEARS:
                    return bearing;
                case Kind.WEIGHT:
                    return weighing;
                case Kind.WHO:
                    return who;
                case Kind.NEAR:
                    return near;
                case Kind.GONE:
                    return gone;
                default:
                    return parts;
            }
        }

        private static int joined(int kind, int a, int b) {
            switch (kind) {
                case Kind.OR:
                    return a | b;
                case Kind.AND:
                    return a & b;
                case '=':
                    return a == b ? 1 : 0;
                case '<':
                    return a < b ? 1 : 0;
                case '>':
                    return a > b ? 1 : 0;
                default:
                    break;
            }
            long value = (long) a * b;
            if (kind == '+') {
                value = a + b;
            } else if (kind == '-') {
                value = a - b;
            }
            if (value > BOUND) {
                return BOUND;
            }
            return value < -BOUND ? -BOUND : (int) value;
        }
    }

    /** What can be undone, the eldest first. */
    private static final class Past {
        private final State[] states = new State[MOST_UNDONE];
        private int size;

        Past() {
            for (int i = 0; i < states.length; i++) {
                states[i] = new State();
            }
        }

        void forget() {
            size = 0;
        }

        void remember(State state) {
            if (size >= states.length) {
                forgetEldest();
            }
            states[size].copy(state);
            size++;
        }

        private void forgetEldest() {
            State eldest = states[0];
            for (int i = 1; i < states.length; i++) {
                states[i - 1] = states[i];
            }
            states[states.length - 1] = eldest;
            size = states.length - 1;
        }

        void bringBack(int n, State state) {
            if (n >= 1 && n <= size) {
                size -= n;
                state.copy(states[size]);
            }
        }
    }

    private static final class Tray {
        private final long[] values = new long[MOST_NUMBERS];
        private int sort;
        private int size = NONE;

        boolean isMissing() {
            return size == NONE;
        }

        void lay(int newSort, int n) {
            sort = newSort;
            size = n;
            Arrays.fill(values, 0L);
        }

        long valueAt(int i) {
            return i >= 0 && i < values.length ? values[i] : 0;
        }

        void put(int i, long v) {
            if (i < 0 || i >= values.length) {
                return;
            }
            switch (sort) {
                case 0:
                    values[i] = (byte) v;
                    break;
                case 1:
                    values[i] = (short) v;
                    break;
                case 2:
                    values[i] = (int) v;
                    break;
                default:
                    values[i] = v;
                    break;
            }
        }
    }

    /** Who can change places with whom: every order is tried, the first ones first. */
    private static final class Places {
        private static final int TOO_MANY_QUARRELS = 99;

        private Raft raft = new Raft();
        private final int[] tried = new int[MOST_PEOPLE];

        void seek(Raft told) {
            if (told.isPlaced) {
                return;
            }
            raft = told;
            raft.placedQuarrels = TOO_MANY_QUARRELS;
            putFrom(this, 0, 0, 0);
            raft.isPlaced = true;
        }

        /** Only what is better is kept, so of like orders the first stays. */
        private static void putFrom(Places own, int p, int taken, int quarrelling) {
            Raft raft = own.raft;
            if (quarrelling >= raft.placedQuarrels) {
                return;
            }
            if (p >= raft.people || p >= MOST_PEOPLE) {
                raft.placedQuarrels = quarrelling;
                System.arraycopy(own.tried, 0, raft.place, 0, MOST_PEOPLE);
                return;
            }
            int foes = own.placesOfFoes(p);
            for (int place = 0; place < raft.people; place++) {
                if ((taken >> place & 1) == 0) {
                    own.tried[p] = place;
                    int more = Integer.bitCount(foes & raft.beside[place]);
                    putFrom(own, p + 1, taken | 1 << place, quarrelling + more);
                }
            }
        }

        private int placesOfFoes(int p) {
            int foes = 0;
            for (int q = 0; q < p; q++) {
                if ((raft.quarrels[p] >> q & 1) != 0) {
                    foes |= 1 << tried[q];
                }
            }
            return foes;
        }
    }

    /**
     * Two sides letting go by turns, by what the sea foresaw. Outcomes are told as the set sees them:
     * 1 if the others lose, -1 if those of the set do, 0 if nobody does.
     */
    private static final class Turns {
        private final Sea sea;
        private final int[] oursOn = new int[SETS];
        private final int[] theirsOn = new int[SETS];

        Turns(Sea sea) {
            this.sea = sea;
        }

        int outcome(int hold) {
            return oursOn[hold & SETS - 1];
        }

        /** Whoever lets go leaves a lesser set, so all that a set asks for is known when it comes. */
        void play(int hold, int ours) {
            oursOn[0] = 0;
            theirsOn[0] = 0;
            for (int set = 1; set <= hold && set < SETS; set++) {
                if ((set & ~hold) == 0) {
                    playSet(set, set & ours, set & ~ours);
                }
            }
        }

        /** Who has nobody to let go hands on the same set: the other side's outcome must stand first. */
        private void playSet(int set, int ours, int theirs) {
            if (ours == 0) {
                theirsOn[set] = leastFor(set, theirs);
                oursOn[set] = behind(set, true);
            } else {
                oursOn[set] = mostFor(set, ours);
                theirsOn[set] = theirs == 0 ? behind(set, false) : leastFor(set, theirs);
            }
        }

        private int mostFor(int set, int own) {
            int most = -1;
            for (int p = 0; p < MOST_PEOPLE; p++) {
                if ((own >> p & 1) != 0) {
                    most = Math.max(most, behind(set & ~(1 << p), true));
                }
            }
            return most;
        }

        private int leastFor(int set, int own) {
            int least = 1;
            for (int p = 0; p < MOST_PEOPLE; p++) {
                if ((own >> p & 1) != 0) {
                    least = Math.min(least, behind(set & ~(1 << p), false));
                }
            }
            return least;
        }

        /** What comes of it when those who are on leave a set to settle. */
        private int behind(int set, boolean oursAreOn) {
            int settled = sea.fateOf(set);
            if (settled < 0) {
                return oursAreOn ? -1 : 1;
            }
            return oursAreOn ? theirsOn[settled] : oursOn[settled];
        }

        int bestFirst(int hold, int ours) {
            for (int p = 0; p < MOST_PEOPLE; p++) {
                int bit = 1 << p;
                if ((hold & ours & bit) != 0 && behind(hold & ~bit, true) == outcome(hold)) {
                    return p;
                }
            }
            return NONE;
        }
    }
}
