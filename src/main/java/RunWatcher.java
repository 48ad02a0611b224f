/**
 * A rule on what a run of events should do, made to the least machine that watches it.
 * What each call answers is told in ../shared/DOC.md, by the numbers of its promises.
 */
public final class RunWatcher {
    public static final int UNKNOWN = -1, OUTSIDE = -2, STATE = -3, FULL = -4, NONE = -9;

    private static final int EVENTS = 4;
    private static final int VERDICTS = 4;
    private static final int KEYS = 16;
    private static final int MOST_BYTES = 60;
    private static final int MOST_NODES = 9;
    private static final int MOST_AROUND = 7;
    private static final int MOST_STATES = 60;
    private static final int MOST_ROW = 25;
    private static final int MOST_LOST = 100;
    private static final int FAULT_AT_FIRST_BYTE = -100;

    /** A verdict of a state is these two bits; a key in several states may also be OPEN. */
    private static final int KEPT_BIT = 1;
    private static final int SURE_BIT = 2;
    private static final int OPEN = 4;

    /** At most eight of nine nodes bear a bit, so all bits together are one of these many. */
    private static final int MOST_BITS = 8;
    private static final int MOST_CARRIED = 1 << MOST_BITS;
    private static final int MOST_WORDS = MOST_CARRIED / 64;

    /**
     * The pairs that a rule with at most 60 states can have, and the run without events: see Pairs.
     */
    private static final int MOST_PAIRS = 1 + MOST_STATES * 32;

    private final int[] tape = new int[MOST_BYTES];
    private int bytes = 0;
    private int faultKind = 0;

    private final Reader reader = new Reader();
    private final Carry carry = new Carry();
    private final Pairs pairs = new Pairs();
    private final Lessener lessener = new Lessener();
    private final Watcher watcher = new Watcher();
    private final Watcher keptWatcher = new Watcher();
    private final Meeting meeting = new Meeting();
    private final Keys keys = new Keys();

    public RunWatcher() {
    }

    // ---- the rule

    public int feed(long w) {
        int more = bytesIn(w);
        if (bytes + more > MOST_BYTES) {
            return FULL;
        }
        for (int i = 0; i < more; i++) {
            put(tape, bytes + i, byteOf(w, i));
        }
        bytes += more;
        return bytes;
    }

    public int read() {
        boolean sound = reader.reads(tape, bytes);
        faultKind = reader.faultKind();
        if (!sound) {
            return FAULT_AT_FIRST_BYTE - reader.faultByte();
        }
        carry.make(reader.rule());
        if (!pairs.make(carry) || !lessener.lessen(pairs)) {
            return FULL;
        }
        lessener.putInto(watcher, pairs);
        keys.restart();
        bytes = 0;
        return watcher.size();
    }

    public int fault() {
        return faultKind;
    }

    public int cut() {
        int had = bytes;
        bytes = 0;
        return had;
    }

    // ---- the watcher

    public int leads(int state, int event) {
        if (!watcher.isThere()) {
            return STATE;
        }
        if (!watcher.has(state) || !isEvent(event)) {
            return UNKNOWN;
        }
        return watcher.next(state, event);
    }

    public int verdict(int state) {
        int refusal = refusalOfState(state);
        return refusal != 0 ? refusal : watcher.verdictOf(state);
    }

    public int far(int state, int verdict) {
        int refusal = refusalOfState(state);
        if (refusal != 0) {
            return refusal;
        }
        return isVerdict(verdict) ? watcher.distance(state, verdict) : OUTSIDE;
    }

    public int toward(int state, int verdict) {
        int refusal = refusalOfState(state);
        if (refusal != 0) {
            return refusal;
        }
        return isVerdict(verdict) ? watcher.firstStep(state, verdict) : OUTSIDE;
    }

    public long runs(int state, int n) {
        int refusal = refusalOfState(state);
        if (refusal != 0) {
            return refusal;
        }
        return isRow(n) ? watcher.waysOf(state, n) : OUTSIDE;
    }

    public int run(int state, int n, int i) {
        int refusal = refusalOfState(state);
        if (refusal != 0) {
            return refusal;
        }
        return isRow(n) ? watcher.eventOfFirstRow(state, n, i) : OUTSIDE;
    }

    // ---- keys

    public int event(int event, int key) {
        if (!watcher.isThere()) {
            return STATE;
        }
        if (!isEvent(event) || !isKey(key)) {
            return UNKNOWN;
        }
        return keys.step(watcher, key, event);
    }

    public int lost(int key, int n) {
        int refusal = refusalOfKey(key);
        if (refusal != 0) {
            return refusal;
        }
        if (n < 1 || n > MOST_LOST) {
            return OUTSIDE;
        }
        return keys.lose(watcher, key, n);
    }

    public int told(int key) {
        int refusal = refusalOfKey(key);
        return refusal != 0 ? refusal : keys.verdictOf(watcher, key);
    }

    public int may(int key) {
        int refusal = refusalOfKey(key);
        return refusal != 0 ? refusal : keys.statesOf(key);
    }

    public int state(int key, int i) {
        int refusal = refusalOfKey(key);
        return refusal != 0 ? refusal : keys.stateAt(key, i);
    }

    public int events(int key) {
        int refusal = refusalOfKey(key);
        return refusal != 0 ? refusal : keys.eventsOf(key);
    }

    public int anew(int key) {
        int refusal = refusalOfKey(key);
        if (refusal != 0) {
            return refusal;
        }
        int ahead = keys.verdictOf(watcher, key);
        keys.restart(key);
        return ahead;
    }

    // ---- rules against one another

    public int keep() {
        if (!watcher.isThere()) {
            return STATE;
        }
        keptWatcher.copyFrom(watcher);
        return keptWatcher.size();
    }

    public int against() {
        if (!watcher.isThere() || !keptWatcher.isThere()) {
            return STATE;
        }
        meeting.meet(watcher, keptWatcher);
        return meeting.relation();
    }

    public int apart() {
        if (!watcher.isThere() || !keptWatcher.isThere()) {
            return STATE;
        }
        meeting.meet(watcher, keptWatcher);
        return meeting.shortestApart();
    }

    public int count(int what) {
        switch (what) {
            case 0:
                return watcher.size();
            case 1:
                return watcher.sureStates();
            case 2:
                return watcher.isThere() ? keys.letGo(watcher) : 0;
            case 3:
                return bytes;
            case 4:
                return keptWatcher.isThere() ? 1 : 0;
            default:
                return OUTSIDE;
        }
    }

    // ---- what the calls look at first

    private int refusalOfState(int state) {
        if (!watcher.isThere()) {
            return STATE;
        }
        return watcher.has(state) ? 0 : UNKNOWN;
    }

    private int refusalOfKey(int key) {
        if (!watcher.isThere()) {
            return STATE;
        }
        return isKey(key) ? 0 : UNKNOWN;
    }

    private static boolean isEvent(int event) {
        return event >= 0 && event < EVENTS;
    }

    private static boolean isVerdict(int verdict) {
        return verdict >= 0 && verdict < VERDICTS;
    }

    private static boolean isKey(int key) {
        return key >= 0 && key < KEYS;
    }

    private static boolean isRow(int n) {
        return n >= 0 && n <= MOST_ROW;
    }

    private static int byteOf(long w, int i) {
        return (int) (w >>> (8 * i)) & 255;
    }

    private static int bytesIn(long w) {
        for (int i = 0; i < 8; i++) {
            if (byteOf(w, i) == 0) {
                return i;
            }
        }
        return 8;
    }

    // ---- rows, looked into only where they have a place

    private static int pick(int[] row, int i) {
        return i >= 0 && i < row.length ? row[i] : NONE;
    }

    private static void put(int[] row, int i, int value) {
        if (i >= 0 && i < row.length) {
            row[i] = value;
        }
    }

    private static long pickLong(long[] row, int i) {
        return i >= 0 && i < row.length ? row[i] : 0;
    }

    private static void putLong(long[] row, int i, long value) {
        if (i >= 0 && i < row.length) {
            row[i] = value;
        }
    }

    private static boolean isSet(boolean[] row, int i) {
        return i >= 0 && i < row.length && row[i];
    }

    private static void set(boolean[] row, int i, boolean value) {
        if (i >= 0 && i < row.length) {
            row[i] = value;
        }
    }

    private static boolean hasBit(long bits, int i) {
        return (bits >>> i & 1) == 1;
    }

    /**
     * A rule as a row of nodes, each behind those that it is made of, so that one walk along the
     * row values them all. Each node that looks to a next place (N W G F U) or to the one ahead
     * (Y H O S) bears a bit: what it needs to know of that place.
     */
    private static final class Rule {
        private static final int NO_BIT = 31;

        private final int[] signs = new int[MOST_NODES];
        private final int[] firsts = new int[MOST_NODES];
        private final int[] seconds = new int[MOST_NODES];
        private final int[] places = new int[MOST_NODES];
        private final int[] slots = new int[MOST_NODES];
        private final boolean[] inPast = new boolean[MOST_NODES];
        private int size = 0;
        private int futureBits = 0;
        private int pastBits = 0;

        Rule() {
        }

        static boolean looksBehind(int sign) {
            return sign == 'N' || sign == 'W' || sign == 'G' || sign == 'F' || sign == 'U';
        }

        static boolean looksAhead(int sign) {
            return sign == 'Y' || sign == 'H' || sign == 'O' || sign == 'S';
        }

        void clear() {
            size = 0;
        }

        int add(int sign, int first, int second, int place) {
            if (size >= MOST_NODES) {
                return NONE;
            }
            put(signs, size, sign);
            put(firsts, size, first);
            put(seconds, size, second);
            put(places, size, place);
            size++;
            return size - 1;
        }

        /** The least byte of a sign that looks behind from within one that looks ahead; NONE. */
        int firstPastFault() {
            int least = NONE;
            for (int node = 0; node < size; node++) {
                set(inPast, node, false);
            }
            for (int node = size - 1; node >= 0; node--) {
                int sign = pick(signs, node);
                if (isSet(inPast, node) || looksAhead(sign)) {
                    set(inPast, pick(firsts, node), true);
                    set(inPast, pick(seconds, node), true);
                }
                int place = pick(places, node);
                if (isSet(inPast, node) && looksBehind(sign) && (least == NONE || place < least)) {
                    least = place;
                }
            }
            return least;
        }

        /** The bits of the signs that look behind stand below those of the signs that look ahead. */
        void giveBits() {
            futureBits = 0;
            for (int node = 0; node < size; node++) {
                put(slots, node, NO_BIT);
                if (looksBehind(pick(signs, node))) {
                    put(slots, node, futureBits);
                    futureBits++;
                }
            }
            pastBits = 0;
            for (int node = 0; node < size; node++) {
                if (looksAhead(pick(signs, node))) {
                    put(slots, node, futureBits + pastBits);
                    pastBits++;
                }
            }
        }

        int futureBits() {
            return futureBits;
        }

        int pastBits() {
            return pastBits;
        }

        /** What the bits are where there is no next place, and where there is none ahead. */
        int bitsOfNoPlace() {
            int bits = 0;
            for (int node = 0; node < size; node++) {
                int sign = pick(signs, node);
                if (sign == 'W' || sign == 'G' || sign == 'H') {
                    bits |= 1 << pick(slots, node);
                }
            }
            return bits;
        }

        /** Which nodes hold at a place with this event, a bit a node. */
        int valuesAt(int event, int bits) {
            int values = 0;
            for (int node = 0; node < size; node++) {
                if (holds(node, event, bits, values)) {
                    values |= 1 << node;
                }
            }
            return values;
        }

        private boolean holds(int node, int event, int bits, int values) {
            boolean first = hasBit(values, pick(firsts, node));
            boolean second = hasBit(values, pick(seconds, node));
            boolean carried = hasBit(bits, pick(slots, node));
            int sign = pick(signs, node);
            switch (sign) {
                case '.':
                    return true;
                case '!':
                    return !first;
                case '&':
                    return first && second;
                case '/':
                    return first || second;
                case '>':
                    return !first || second;
                case 'N':
                case 'W':
                case 'Y':
                    return carried;
                case 'G':
                case 'H':
                    return first && carried;
                case 'F':
                case 'O':
                    return first || carried;
                case 'U':
                case 'S':
                    return second || (first && carried);
                default:
                    return sign == 'a' + event;
            }
        }

        /** What the bits are at the places beside one where the nodes have these values. */
        int bitsBeside(int values) {
            int bits = 0;
            for (int node = 0; node < size; node++) {
                int sign = pick(signs, node);
                boolean ofPart = sign == 'N' || sign == 'W' || sign == 'Y';
                boolean told = hasBit(values, ofPart ? pick(firsts, node) : node);
                if (told && (looksBehind(sign) || looksAhead(sign))) {
                    bits |= 1 << pick(slots, node);
                }
            }
            return bits;
        }

        boolean wholeHolds(int values) {
            return size > 0 && hasBit(values, size - 1);
        }
    }

    /** Reads the bytes of the tape from the left into a rule, up to the first fault. */
    private static final class Reader {
        private static final int SYNTAX = 1;
        private static final int PAST = 2;
        private static final int END = -1;
        private static final int BLANK = 32;

        private final Rule rule = new Rule();
        private int[] tape = new int[0];
        private int length = 0;
        private int at = 0;
        private int begun = 0;
        private int open = 0;
        private int latestSign = 0;
        private int faultKind = 0;
        private int faultByte = 0;

        Reader() {
        }

        Rule rule() {
            return rule;
        }

        int faultKind() {
            return faultKind;
        }

        int faultByte() {
            return faultByte;
        }

        boolean reads(int[] bytes, int many) {
            tape = bytes;
            length = many;
            at = 0;
            begun = 0;
            open = 0;
            faultKind = 0;
            faultByte = 0;
            rule.clear();
            readRule();
            if (!failed() && here() != END) {
                failHere();
            }
            if (!failed()) {
                int place = rule.firstPastFault();
                if (place != NONE) {
                    faultKind = PAST;
                    faultByte = place;
                }
            }
            return !failed();
        }

        private boolean failed() {
            return faultKind != 0;
        }

        private void failHere() {
            if (!failed()) {
                faultKind = SYNTAX;
                faultByte = at;
            }
        }

        /** The byte that comes next, behind blanks. */
        private int here() {
            for (int i = 0; i < MOST_BYTES && at < length && pick(tape, at) == BLANK; i++) {
                at++;
            }
            return at < length ? pick(tape, at) : END;
        }

        private boolean takes(int sign) {
            return !failed() && here() == sign && beginsNode();
        }

        private boolean beginsNode() {
            if (begun >= MOST_NODES) {
                failHere();
                return false;
            }
            begun++;
            latestSign = at;
            at++;
            return true;
        }

        private int made(int sign, int first, int second, int place) {
            return failed() ? NONE : rule.add(sign, first, second, place);
        }

        // Each of these comes back to itself only behind a node or a bracket that it took, and
        // both are few: no more than some sixty of them are open at once.

        private int readRule() {
            int first = readEither();
            if (!takes('>')) {
                return first;
            }
            int place = latestSign;
            int second = readRule();
            return made('>', first, second, place);
        }

        private int readEither() {
            int first = readBoth();
            for (int i = 0; i < MOST_NODES && takes('/'); i++) {
                int place = latestSign;
                int second = readBoth();
                first = made('/', first, second, place);
            }
            return first;
        }

        private int readBoth() {
            int first = readPair();
            for (int i = 0; i < MOST_NODES && takes('&'); i++) {
                int place = latestSign;
                int second = readPair();
                first = made('&', first, second, place);
            }
            return first;
        }

        private int readPair() {
            int first = readOne();
            int sign = takes('U') ? 'U' : takes('S') ? 'S' : END;
            if (sign == END) {
                return first;
            }
            int place = latestSign;
            int second = readPair();
            return made(sign, first, second, place);
        }

        private int readOne() {
            int sign = here();
            if (sign == '(') {
                return readBracket();
            }
            boolean leaf = sign == '.' || (sign >= 'a' && sign < 'a' + EVENTS);
            if (!leaf && !standsAheadOfOne(sign)) {
                failHere();
                return NONE;
            }
            if (!beginsNode()) {
                return NONE;
            }
            int place = latestSign;
            return made(sign, leaf ? NONE : readOne(), NONE, place);
        }

        private int readBracket() {
            if (open > MOST_AROUND) {
                failHere();
                return NONE;
            }
            open++;
            at++;
            int inside = readRule();
            if (!failed() && here() != ')') {
                failHere();
            }
            at++;
            open--;
            return inside;
        }

        private static boolean standsAheadOfOne(int sign) {
            if (sign == '!') {
                return true;
            }
            return sign != 'U' && sign != 'S' && (Rule.looksBehind(sign) || Rule.looksAhead(sign));
        }
    }

    /**
     * How an event turns the bits of a rule. One row of bits holds both kinds: those of the past
     * as they are told by the place ahead, those of the future as they are told by the next one.
     * Turned by an event they are the past as the next place, the future as the place ahead is
     * told it.
     */
    private static final class Carry {
        private final int[] turned = new int[MOST_CARRIED * EVENTS];
        private final boolean[] kept = new boolean[MOST_CARRIED * EVENTS];
        private final boolean[] possible = new boolean[MOST_CARRIED];
        private int futureBits = 0;
        private int pastBits = 0;
        private int noPlace = 0;

        Carry() {
        }

        void make(Rule rule) {
            rule.giveBits();
            futureBits = rule.futureBits();
            pastBits = rule.pastBits();
            noPlace = rule.bitsOfNoPlace();
            for (int bits = 0; bits < all(); bits++) {
                for (int event = 0; event < EVENTS; event++) {
                    int values = rule.valuesAt(event, bits);
                    put(turned, bits * EVENTS + event, rule.bitsBeside(values));
                    set(kept, bits * EVENTS + event, rule.wholeHolds(values));
                }
            }
            findPossible();
        }

        private int all() {
            return Math.min(MOST_CARRIED, 1 << (futureBits + pastBits));
        }

        int futures() {
            return Math.min(MOST_CARRIED, 1 << futureBits);
        }

        int pasts() {
            return Math.min(MOST_CARRIED, 1 << pastBits);
        }

        int futureOf(int bits) {
            return bits & (futures() - 1);
        }

        int pastOf(int bits) {
            return bits >> futureBits;
        }

        int both(int past, int future) {
            return past << futureBits | future;
        }

        int noPlace() {
            return noPlace;
        }

        int turn(int bits, int event) {
            return pick(turned, bits * EVENTS + event);
        }

        boolean keeps(int bits, int event) {
            return isSet(kept, bits * EVENTS + event);
        }

        /** Whether, behind a run with this past, some row of events tells this future. */
        boolean isPossible(int bits) {
            return isSet(possible, bits);
        }

        private void findPossible() {
            for (int bits = 0; bits < all(); bits++) {
                set(possible, bits, futureOf(bits) == futureOf(noPlace));
            }
            boolean more = true;
            for (int round = 0; round < MOST_CARRIED && more; round++) {
                more = false;
                for (int bits = 0; bits < all(); bits++) {
                    more |= addPossible(bits);
                }
            }
        }

        private boolean addPossible(int bits) {
            boolean added = false;
            for (int event = 0; event < EVENTS; event++) {
                int to = turn(bits, event);
                int behind = both(pastOf(to), futureOf(bits));
                int here = both(pastOf(bits), futureOf(to));
                if (isPossible(behind) && !isPossible(here)) {
                    set(possible, here, true);
                    added = true;
                }
            }
            return added;
        }
    }

    /**
     * What a run leaves: its past bits, and the set of those futures with which the whole is kept.
     * Sets hold possible futures alone, so two of one past that differ are told apart by some row
     * of events: more than 60 of one past are more than 60 states. With p past bits that is
     * 60 << p pairs; with p of 6, 7, 8 there are at most 2, 1, 0 future bits, so at most 16, 4, 2
     * sets for each past: fewer than 60 * 32 in all. Pair 0 is the run without events alone.
     */
    private static final class Pairs {
        private final int[] pasts = new int[MOST_PAIRS];
        private final long[] sets = new long[MOST_PAIRS * MOST_WORDS];
        private final int[] leads = new int[MOST_PAIRS * EVENTS];
        private final boolean[] kept = new boolean[MOST_PAIRS];
        private final int[] latestOfPast = new int[MOST_CARRIED];
        private final int[] earlierOfPast = new int[MOST_PAIRS];
        private final long[] work = new long[MOST_WORDS];
        private int workPast = 0;
        private int words = 0;
        private int most = 0;
        private int size = 0;

        Pairs() {
        }

        /** False: there are more pairs than 60 states can have. */
        boolean make(Carry carry) {
            begin(carry);
            for (int pair = 0; pair < size && pair < MOST_PAIRS; pair++) {
                for (int event = 0; event < EVENTS; event++) {
                    follow(carry, pair, event);
                    int to = findWork();
                    if (to == NONE) {
                        to = addWork(carry);
                    }
                    if (to == NONE) {
                        return false;
                    }
                    put(leads, pair * EVENTS + event, to);
                }
            }
            return true;
        }

        int size() {
            return size;
        }

        int next(int pair, int event) {
            return pick(leads, pair * EVENTS + event);
        }

        boolean isKept(int pair) {
            return isSet(kept, pair);
        }

        private void begin(Carry carry) {
            words = Math.min(MOST_WORDS, (carry.futures() + 63) / 64);
            most = 1 + Math.min(MOST_PAIRS - 1, MOST_STATES * carry.pasts());
            for (int past = 0; past < carry.pasts(); past++) {
                put(latestOfPast, past, NONE);
            }
            size = 1;
            put(pasts, 0, carry.pastOf(carry.noPlace()));
            set(kept, 0, true);
        }

        /** Puts into the work row what is left of a pair by one event more. */
        private void follow(Carry carry, int pair, int event) {
            for (int word = 0; word < words; word++) {
                putLong(work, word, 0);
            }
            int past = pick(pasts, pair);
            workPast = carry.pastOf(carry.turn(carry.both(past, 0), event));
            for (int future = 0; future < carry.futures(); future++) {
                int bits = carry.both(past, future);
                if (!carry.isPossible(carry.both(workPast, future))) {
                    continue;
                }
                int told = carry.futureOf(carry.turn(bits, event));
                if (pair == 0 ? carry.keeps(bits, event) : isIn(pair, told)) {
                    putLong(work, future / 64, pickLong(work, future / 64) | 1L << (future % 64));
                }
            }
        }

        private boolean isIn(int pair, int future) {
            return hasBit(pickLong(sets, pair * MOST_WORDS + future / 64), future % 64);
        }

        private int findWork() {
            int pair = pick(latestOfPast, workPast);
            for (int i = 0; i < MOST_PAIRS && pair != NONE; i++) {
                if (isWork(pair)) {
                    return pair;
                }
                pair = pick(earlierOfPast, pair);
            }
            return NONE;
        }

        private boolean isWork(int pair) {
            for (int word = 0; word < words; word++) {
                if (pickLong(sets, pair * MOST_WORDS + word) != pickLong(work, word)) {
                    return false;
                }
            }
            return true;
        }

        private int addWork(Carry carry) {
            if (size >= most) {
                return NONE;
            }
            int pair = size;
            put(pasts, pair, workPast);
            for (int word = 0; word < words; word++) {
                putLong(sets, pair * MOST_WORDS + word, pickLong(work, word));
            }
            set(kept, pair, isIn(pair, carry.futureOf(carry.noPlace())));
            put(earlierOfPast, pair, pick(latestOfPast, workPast));
            put(latestOfPast, workPast, pair);
            size++;
            return pair;
        }
    }

    /**
     * Puts pairs that no row of events tells apart into one group: groups are split by where the
     * events lead, until none is split any more. Those groups are the states.
     */
    private static final class Lessener {
        private static final int GROUP_BITS = 6;

        private int[] groups = new int[MOST_PAIRS];
        private int[] finer = new int[MOST_PAIRS];
        private final int[] marks = new int[MOST_STATES];
        private final int[] members = new int[MOST_STATES];
        private final int[] stateOfGroup = new int[MOST_STATES];
        private final int[] groupOfState = new int[MOST_STATES];
        private int many = 0;

        Lessener() {
        }

        /** False: there are more than 60 groups. */
        boolean lessen(Pairs made) {
            for (int pair = 0; pair < made.size(); pair++) {
                put(groups, pair, made.isKept(pair) ? 1 : 0);
            }
            many = 0;
            for (int round = 0; round <= MOST_STATES; round++) {
                int before = many;
                if (!split(made)) {
                    return false;
                }
                if (many == before) {
                    return true;
                }
            }
            return true;
        }

        private boolean split(Pairs made) {
            many = 0;
            for (int pair = 0; pair < made.size(); pair++) {
                int group = groupOfMark(markOf(made, pair), pair);
                if (group == NONE) {
                    return false;
                }
                put(finer, pair, group);
            }
            int[] coarser = groups;
            groups = finer;
            finer = coarser;
            return true;
        }

        /** A pair's group and those to which the events lead, in one number. */
        private int markOf(Pairs made, int pair) {
            int mark = pick(groups, pair);
            for (int event = 0; event < EVENTS; event++) {
                mark = mark << GROUP_BITS | pick(groups, made.next(pair, event));
            }
            return mark;
        }

        private int groupOfMark(int mark, int pair) {
            for (int group = 0; group < many; group++) {
                if (pick(marks, group) == mark) {
                    return group;
                }
            }
            if (many >= MOST_STATES) {
                return NONE;
            }
            put(marks, many, mark);
            put(members, many, pair);
            many++;
            return many - 1;
        }

        /** Numbers the groups as they are met from that of the run without events. */
        void putInto(Watcher watcher, Pairs made) {
            for (int group = 0; group < many; group++) {
                put(stateOfGroup, group, NONE);
            }
            watcher.clear();
            meet(watcher, made, pick(groups, 0));
            for (int state = 0; state < watcher.size() && state < MOST_STATES; state++) {
                int member = pick(members, pick(groupOfState, state));
                for (int event = 0; event < EVENTS; event++) {
                    int group = pick(groups, made.next(member, event));
                    watcher.lead(state, event, meet(watcher, made, group));
                }
            }
            watcher.finish();
        }

        private int meet(Watcher watcher, Pairs made, int group) {
            int state = pick(stateOfGroup, group);
            if (state == NONE) {
                state = watcher.add(made.isKept(pick(members, group)));
                put(stateOfGroup, group, state);
                put(groupOfState, state, group);
            }
            return state;
        }
    }

    /** The least machine, with what is asked of its states worked out once. */
    private static final class Watcher {
        private final int[] leads = new int[MOST_STATES * EVENTS];
        private final int[] verdicts = new int[MOST_STATES];
        private final int[] distances = new int[MOST_STATES * VERDICTS];
        private final long[] ways = new long[MOST_STATES * (MOST_ROW + 1)];
        private int size = 0;

        Watcher() {
        }

        void clear() {
            size = 0;
        }

        int add(boolean kept) {
            if (size >= MOST_STATES) {
                return NONE;
            }
            put(verdicts, size, kept ? KEPT_BIT : 0);
            size++;
            return size - 1;
        }

        void lead(int state, int event, int to) {
            put(leads, state * EVENTS + event, to);
        }

        void finish() {
            markSure();
            for (int verdict = 0; verdict < VERDICTS; verdict++) {
                measure(verdict);
            }
            countWays();
        }

        void copyFrom(Watcher other) {
            size = other.size;
            System.arraycopy(other.leads, 0, leads, 0, leads.length);
            System.arraycopy(other.verdicts, 0, verdicts, 0, verdicts.length);
        }

        boolean isThere() {
            return size > 0;
        }

        int size() {
            return size;
        }

        boolean has(int state) {
            return state >= 0 && state < size;
        }

        int next(int state, int event) {
            return pick(leads, state * EVENTS + event);
        }

        int verdictOf(int state) {
            return pick(verdicts, state);
        }

        boolean keeps(int state) {
            return (verdictOf(state) & KEPT_BIT) != 0;
        }

        boolean isSure(int state) {
            return (verdictOf(state) & SURE_BIT) != 0;
        }

        int sureStates() {
            int sure = 0;
            for (int state = 0; state < size; state++) {
                sure += isSure(state) ? 1 : 0;
            }
            return sure;
        }

        /** In the least machine a state from which one thing is told for ever leads to itself alone. */
        private void markSure() {
            for (int state = 0; state < size; state++) {
                boolean sure = true;
                for (int event = 0; event < EVENTS; event++) {
                    sure = sure && next(state, event) == state;
                }
                if (sure) {
                    put(verdicts, state, verdictOf(state) | SURE_BIT);
                }
            }
        }

        private void measure(int verdict) {
            for (int state = 0; state < size; state++) {
                put(distances, state * VERDICTS + verdict, verdictOf(state) == verdict ? 0 : NONE);
            }
            boolean more = true;
            for (int far = 1; far <= MOST_STATES && more; far++) {
                more = false;
                for (int state = 0; state < size; state++) {
                    if (distance(state, verdict) == NONE && stepTo(state, verdict, far - 1) != NONE) {
                        put(distances, state * VERDICTS + verdict, far);
                        more = true;
                    }
                }
            }
        }

        int distance(int state, int verdict) {
            return pick(distances, state * VERDICTS + verdict);
        }

        /** The first event that leads to where a verdict is so far away. */
        private int stepTo(int state, int verdict, int far) {
            for (int event = 0; event < EVENTS; event++) {
                if (distance(next(state, event), verdict) == far) {
                    return event;
                }
            }
            return NONE;
        }

        int firstStep(int state, int verdict) {
            int far = distance(state, verdict);
            return far > 0 ? stepTo(state, verdict, far - 1) : NONE;
        }

        private void countWays() {
            for (int state = 0; state < size; state++) {
                putLong(ways, state, keeps(state) ? 1 : 0);
            }
            for (int n = 1; n <= MOST_ROW; n++) {
                for (int state = 0; state < size; state++) {
                    long sum = 0;
                    for (int event = 0; event < EVENTS; event++) {
                        sum += waysOf(next(state, event), n - 1);
                    }
                    putLong(ways, n * MOST_STATES + state, sum);
                }
            }
        }

        long waysOf(int state, int n) {
            return pickLong(ways, n * MOST_STATES + state);
        }

        int eventOfFirstRow(int state, int n, int i) {
            if (i < 0 || i >= n || waysOf(state, n) == 0) {
                return NONE;
            }
            int here = state;
            for (int place = 0; place < n; place++) {
                int event = firstKeptEvent(here, n - place - 1);
                if (place == i || event == NONE) {
                    return event;
                }
                here = next(here, event);
            }
            return NONE;
        }

        private int firstKeptEvent(int state, int left) {
            for (int event = 0; event < EVENTS; event++) {
                if (waysOf(next(state, event), left) > 0) {
                    return event;
                }
            }
            return NONE;
        }
    }

    /** The states that each key may be in, a bit a state, and how many events of it were told. */
    private static final class Keys {
        private final long[] places = new long[KEYS];
        private final int[] came = new int[KEYS];

        Keys() {
        }

        void restart() {
            for (int key = 0; key < KEYS; key++) {
                restart(key);
            }
        }

        void restart(int key) {
            putLong(places, key, 1);
            put(came, key, 0);
        }

        int step(Watcher watcher, int key, int event) {
            if (!isLetGo(watcher, key)) {
                putLong(places, key, stepped(watcher, pickLong(places, key), event));
                put(came, key, pick(came, key) + 1);
            }
            return verdictOf(watcher, key);
        }

        int lose(Watcher watcher, int key, int n) {
            long states = pickLong(places, key);
            boolean more = true;
            for (int i = 0; i < n && more; i++) {
                long wider = states;
                for (int event = 0; event < EVENTS; event++) {
                    wider |= stepped(watcher, states, event);
                }
                more = wider != states;
                states = wider;
            }
            putLong(places, key, states);
            return verdictOf(watcher, key);
        }

        private static long stepped(Watcher watcher, long states, int event) {
            long to = 0;
            for (int state = 0; state < watcher.size(); state++) {
                if (hasBit(states, state)) {
                    to |= 1L << watcher.next(state, event);
                }
            }
            return to;
        }

        int verdictOf(Watcher watcher, int key) {
            long states = pickLong(places, key);
            int one = NONE;
            boolean same = true;
            boolean anyKept = false;
            boolean anyNot = false;
            for (int state = 0; state < watcher.size(); state++) {
                if (hasBit(states, state)) {
                    int verdict = watcher.verdictOf(state);
                    same = same && (one == NONE || one == verdict);
                    one = verdict;
                    anyKept |= watcher.keeps(state);
                    anyNot |= !watcher.keeps(state);
                }
            }
            if (same) {
                return one;
            }
            return anyKept && anyNot ? OPEN : anyKept ? KEPT_BIT : 0;
        }

        boolean isLetGo(Watcher watcher, int key) {
            int verdict = verdictOf(watcher, key);
            return verdict == SURE_BIT || verdict == (SURE_BIT | KEPT_BIT);
        }

        int letGo(Watcher watcher) {
            int many = 0;
            for (int key = 0; key < KEYS; key++) {
                many += isLetGo(watcher, key) ? 1 : 0;
            }
            return many;
        }

        int statesOf(int key) {
            return Long.bitCount(pickLong(places, key));
        }

        int stateAt(int key, int i) {
            long states = pickLong(places, key);
            int left = i;
            for (int state = 0; state < MOST_STATES; state++) {
                if (hasBit(states, state)) {
                    if (left == 0) {
                        return state;
                    }
                    left--;
                }
            }
            return NONE;
        }

        int eventsOf(int key) {
            return pick(came, key);
        }
    }

    /** Two watchers walked along the same runs: which keep both, one alone, and how soon. */
    private static final class Meeting {
        private final int[] depths = new int[MOST_STATES * MOST_STATES];
        private final int[] queue = new int[MOST_STATES * MOST_STATES];
        private int queued = 0;
        private boolean both = false;
        private boolean thisAlone = false;
        private boolean thatAlone = false;
        private int shortest = NONE;

        Meeting() {
        }

        /** The pair of first states counts only where some event leads back to it. */
        void meet(Watcher here, Watcher there) {
            for (int i = 0; i < here.size() * MOST_STATES; i++) {
                put(depths, i, NONE);
            }
            queued = 0;
            both = false;
            thisAlone = false;
            thatAlone = false;
            shortest = NONE;
            walk(here, there, 0, 1);
            for (int i = 0; i < queued && i < queue.length; i++) {
                int pair = pick(queue, i);
                walk(here, there, pair, pick(depths, pair) + 1);
            }
        }

        private void walk(Watcher here, Watcher there, int pair, int depth) {
            for (int event = 0; event < EVENTS; event++) {
                int state = here.next(pair / MOST_STATES, event);
                int other = there.next(pair % MOST_STATES, event);
                int to = state * MOST_STATES + other;
                if (pick(depths, to) == NONE) {
                    put(depths, to, depth);
                    put(queue, queued, to);
                    queued++;
                    look(here.keeps(state), there.keeps(other), depth);
                }
            }
        }

        private void look(boolean keepsThis, boolean keepsThat, int depth) {
            both |= keepsThis && keepsThat;
            thisAlone |= keepsThis && !keepsThat;
            thatAlone |= keepsThat && !keepsThis;
            if (keepsThis != keepsThat && shortest == NONE) {
                shortest = depth;
            }
        }

        int shortestApart() {
            return shortest;
        }

        int relation() {
            if (!thisAlone && !thatAlone) {
                return 1;
            }
            if (!both) {
                return 2;
            }
            if (!thisAlone) {
                return 3;
            }
            return thatAlone ? 0 : 4;
        }
    }
}
