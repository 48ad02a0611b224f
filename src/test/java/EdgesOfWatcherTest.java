/**
 * The document's edges, sentence by sentence: terms 2 (THE WATCHER, STATES, SURE, VERDICTS) and
 * promises 6 to 11. Each function is one sentence, which stands above it.
 */
public final class EdgesOfWatcherTest {
    private static final int UNKNOWN = -1, OUTSIDE = -2, STATE = -3, NONE = -9;
    /** Numbers that are none of a few from 0 on, whichever way they are cut to fewer bits. */
    private static final int[] FAR_OFF = {Integer.MIN_VALUE, Integer.MIN_VALUE + 1, -(1 << 30), -65536, -257, -256,
        -64, -60, -32, -16, -4, -3, -2, -1, 60, 61, 64, 128, 256, 257, 65536, 1 << 28, 1 << 29, 1 << 30,
        (1 << 30) + 1, Integer.MAX_VALUE - 1, Integer.MAX_VALUE};

    public static void main(String[] args) {
        runWithoutEventsIsOneOfTheRuns();
        statesAreFewest();
        statesAreNumberedAsMet();
        sureIsOfTheStateItselfToo();
        sureIsOfHoweverManyEvents();
        verdicts();
        leadsOfEachStateAndEvent();
        verdictOfEachState();
        farIsZeroWhereItIsOne();
        farIsTheFewest();
        farToNone();
        towardIsTheFirstOfTheFewest();
        towardIsNone();
        verdictsAskedFor();
        runsOfNoEvents();
        runsOfTwentyFive();
        runsBeyondInts();
        runsCount();
        runTakesTheFirstRow();
        runWithoutRow();
        runAtEachPlace();
        numbersOfEvents();
        statesThatAreNot();
        withoutRule();
        firstRefusal();
        eachStateOfMany();
        Due.end();
    }

    private static void due(String call, long got, long want) {
        Due.due(call, got, want);
    }

    private static void states(String rule, int want) {
        due("read() of " + rule, Due.read(new RunWatcher(), rule), want);
    }

    /** "two RUNS (that without EVENTS too) lead to one STATE exactly if .. both keep it or neither does". */
    private static void runWithoutEventsIsOneOfTheRuns() {
        states(".", 1);
        states("!.", 2);
        due(". leads(0, 0)", Due.with(".").leads(0, 0), 0);
        due("!. leads(0, 0)", Due.with("!.").leads(0, 0), 1);
        due("!. leads(1, 3)", Due.with("!.").leads(1, 3), 1);
        states("Ga", 2);
        due("Ga: an a leaves what was", Due.with("Ga").leads(0, 0), 0);
        due("Ga: a b does not", Due.with("Ga").leads(0, 1), 1);
        states("Fa", 3);
        due("Fa: a b leaves another", Due.with("Fa").leads(0, 1), 2);
        states("G(a>Fb)", 2);
        due("G(a>Fb): a b leaves what was", Due.with("G(a>Fb)").leads(0, 1), 0);
        states("W!.", 3);
        states("N.", 3);
    }

    /** "whatever comes behind both alike (also nothing)": and no state more. */
    private static void statesAreFewest() {
        states("a/!a", 1);
        states("a&!a", 2);
        states("a&b", 2);
        states("a", 3);
        states("!a", 3);
        states("a/b/c/d", 1);
        states("a&Fb&!.", 2);
        states("FGa", 2);
        states("GFa", 2);
        states("F(a&Fa)", 3);
        states("NNNa", 6);
        states("NNN.", 5);
        states("aUb", 4);
        states("G(d>(!cSa))", 3);
        for (String rule : new String[] {"aUb", "NNNa", "G(a>NNb)", "F(a&NNNNNb)", "G(aUYYYYYa)", "(FGYYYYaUb)",
            "FGYYYYa", "NNNNNNNNa"}) {
            allDiffer(rule);
        }
    }

    /** No two states tell the same behind every row of events: else they were one. */
    private static void allDiffer(String rule) {
        int[][] leads = leadsOf(rule);
        int[] verdicts = verdictsOf(rule);
        int size = leads.length;
        boolean[][] apart = new boolean[size][size];
        for (int i = 0; i < size; i++) {
            for (int j = 0; j < size; j++) {
                apart[i][j] = (verdicts[i] & 1) != (verdicts[j] & 1);
            }
        }
        for (int round = 0; round <= size; round++) {
            for (int i = 0; i < size; i++) {
                for (int j = 0; j < size; j++) {
                    for (int event = 0; event < 4; event++) {
                        apart[i][j] |= apart[leads[i][event]][leads[j][event]];
                    }
                }
            }
        }
        for (int i = 0; i < size; i++) {
            for (int j = 0; j < i; j++) {
                due(rule + ": states " + j + " and " + i + " differ", apart[i][j] ? 1 : 0, 1);
            }
        }
    }

    private static int[][] leadsOf(String rule) {
        RunWatcher x = Due.with(rule);
        int[][] leads = new int[x.count(0)][4];
        for (int state = 0; state < leads.length; state++) {
            for (int event = 0; event < 4; event++) {
                leads[state][event] = x.leads(state, event);
            }
        }
        return leads;
    }

    private static int[] verdictsOf(String rule) {
        RunWatcher x = Due.with(rule);
        int[] verdicts = new int[x.count(0)];
        for (int state = 0; state < verdicts.length; state++) {
            verdicts[state] = x.verdict(state);
        }
        return verdicts;
    }

    private static void leads(String rule, int[][] want) {
        RunWatcher x = Due.with(rule);
        due(rule + " count(0)", x.count(0), want.length);
        for (int state = 0; state < want.length; state++) {
            for (int event = 0; event < 4; event++) {
                due(rule + " leads(" + state + ", " + event + ")", x.leads(state, event), want[state][event]);
            }
        }
    }

    /** "numbered as they are met .. 0: those to which EVENTS a, b, c, d lead, in this order, of STATE 0, then of 1". */
    private static void statesAreNumberedAsMet() {
        leads(".", new int[][] {{0, 0, 0, 0}});
        leads("aUb", new int[][] {{1, 2, 3, 3}, {1, 2, 3, 3}, {2, 2, 2, 2}, {3, 3, 3, 3}});
        leads("d>Na", new int[][] {{1, 1, 1, 2}, {1, 1, 1, 1}, {1, 3, 3, 3}, {3, 3, 3, 3}});
        leads("(a&Na)/(b&Nb)", new int[][] {{1, 2, 3, 3}, {4, 3, 3, 3}, {3, 4, 3, 3}, {3, 3, 3, 3}, {4, 4, 4, 4}});
        leads("(d&Na)/(c&Nb)", new int[][] {{1, 1, 2, 3}, {1, 1, 1, 1}, {1, 4, 1, 1}, {4, 1, 1, 1}, {4, 4, 4, 4}});
        leads("NNa", new int[][] {{1, 1, 1, 1}, {2, 2, 2, 2}, {3, 4, 4, 4}, {3, 3, 3, 3}, {4, 4, 4, 4}});
        leads("G(c>Nd)", new int[][] {{0, 0, 1, 0}, {2, 2, 2, 0}, {2, 2, 2, 2}});
    }

    private static void verdictBehind(String rule, String run, int want) {
        RunWatcher x = Due.with(rule);
        int state = 0;
        for (char letter : run.toCharArray()) {
            state = x.leads(state, letter - 'a');
        }
        due("verdict of " + rule + " behind '" + run + "'", x.verdict(state), want);
    }

    /** "A STATE is SURE, if the same is told at all STATES to which it leads, itself too." */
    private static void sureIsOfTheStateItselfToo() {
        verdictBehind("!.", "", 1);
        verdictBehind("!.", "a", 2);
        verdictBehind(".", "", 3);
        verdictBehind("N.", "", 1);
        verdictBehind("N.", "a", 0);
        verdictBehind("N.", "ab", 3);
        verdictBehind("W!.", "", 1);
        verdictBehind("W!.", "a", 1);
        verdictBehind("W!.", "ab", 2);
        verdictBehind("NN.", "a", 0);
        verdictBehind("NN.", "ab", 0);
        verdictBehind("NN.", "abc", 3);
        verdictBehind("WW!.", "ab", 1);
        verdictBehind("WW!.", "abc", 2);
        due("sure ones of !.", Due.with("!.").count(1), 1);
        due("sure ones of N.", Due.with("N.").count(1), 1);
    }

    /** "all STATES to which it leads": by any number of events, not by one alone. */
    private static void sureIsOfHoweverManyEvents() {
        verdictBehind("NNNa", "b", 0);
        verdictBehind("NNNa", "bb", 0);
        verdictBehind("NNNa", "bbb", 0);
        verdictBehind("NNNa", "bbba", 3);
        verdictBehind("NNNa", "bbbb", 2);
        verdictBehind("WWWa", "b", 1);
        verdictBehind("WWWa", "bbb", 1);
        verdictBehind("WWWa", "bbbb", 2);
        verdictBehind("NNNNNNNNa", "bbbbbbbb", 0);
        verdictBehind("NNNNNNNNa", "bbbbbbbba", 3);
        verdictBehind("NNNNNNNNa", "bbbbbbbbb", 2);
        verdictBehind("G(a>Fb)", "ab", 1);
        verdictBehind("G(a>Fb)", "a", 0);
        due("none of G(a>Fb) is sure", Due.with("G(a>Fb)").count(1), 0);
    }

    /** "3 SURE and kept, 2 SURE and not kept, 1 kept so far, 0 not kept so far." */
    private static void verdicts() {
        verdictBehind("aUb", "", 1);
        verdictBehind("aUb", "a", 0);
        verdictBehind("aUb", "b", 3);
        verdictBehind("aUb", "c", 2);
        verdictBehind("aUb", "aab", 3);
        verdictBehind("aUb", "aac", 2);
        verdictBehind("aUb", "bc", 3);
        verdictBehind("aUb", "cb", 2);
        verdictBehind("Ga", "aaa", 1);
        verdictBehind("Ga", "aab", 2);
        verdictBehind("Fa", "bbb", 0);
        verdictBehind("Fa", "bba", 3);
    }

    /** Promise 6: states 0 .. how many less 1, events 0 .. 3; "UNKNOWN" else. */
    private static void leadsOfEachStateAndEvent() {
        RunWatcher x = Due.with("aUb");
        due("the last state, the last event", x.leads(3, 3), 3);
        due("one state more", x.leads(4, 3), UNKNOWN);
        due("one state less than 0", x.leads(-1, 0), UNKNOWN);
        due("one event more", x.leads(3, 4), UNKNOWN);
        due("one event less than 0", x.leads(0, -1), UNKNOWN);
        due("neither", x.leads(4, 4), UNKNOWN);
        for (int far : FAR_OFF) {
            due("leads(" + far + ", 0)", x.leads(far, 0), UNKNOWN);
            due("leads(0, " + far + ")", x.leads(0, far), UNKNOWN);
            due("leads(1, " + far + ")", x.leads(1, far), UNKNOWN);
        }
        RunWatcher y = Due.with("(FGYYYYaUb)");
        due("state 49 of 50", y.leads(49, 0) >= 0 ? 1 : 0, 1);
        due("state 50 of 50", y.leads(50, 0), UNKNOWN);
        Due.read(y, ".");
        due("state 0 of 1", y.leads(0, 3), 0);
        due("state 1 of 1", y.leads(1, 3), UNKNOWN);
    }

    /** Promise 7: "The VERDICT of a STATE. STATE; UNKNOWN." */
    private static void verdictOfEachState() {
        RunWatcher x = Due.with("aUb");
        int[] want = {1, 0, 3, 2};
        for (int state = 0; state < 4; state++) {
            due("verdict(" + state + ")", x.verdict(state), want[state]);
        }
        due("verdict(4)", x.verdict(4), UNKNOWN);
        due("verdict(-1)", x.verdict(-1), UNKNOWN);
        for (int far : FAR_OFF) {
            due("verdict(" + far + ")", x.verdict(far), UNKNOWN);
        }
        Due.read(x, ".");
        due("verdict(0) of one", x.verdict(0), 3);
        due("verdict(1) of one", x.verdict(1), UNKNOWN);
    }

    /** Promise 8: "(0: it is one)". */
    private static void farIsZeroWhereItIsOne() {
        RunWatcher x = Due.with("aUb");
        due("far(0, 1)", x.far(0, 1), 0);
        due("far(1, 0)", x.far(1, 0), 0);
        due("far(2, 3)", x.far(2, 3), 0);
        due("far(3, 2)", x.far(3, 2), 0);
        Due.read(x, "G(a>Fb)");
        due("it is one, though an event leads to it too", x.far(0, 1), 0);
        due("it is one, though an event leads to it too", x.far(1, 0), 0);
    }

    /** Promise 8: "The fewest EVENTS that lead from a STATE to one of a VERDICT". */
    private static void farIsTheFewest() {
        RunWatcher x = Due.with("NNNNNNNNa");
        due("far(0, 0)", x.far(0, 0), 1);
        for (int state = 0; state <= 8; state++) {
            due("far(" + state + ", 3)", x.far(state, 3), 9 - state);
            due("far(" + state + ", 2)", x.far(state, 2), 9 - state);
        }
        Due.read(x, "(a&NNb)/c");
        due("the shorter of two", x.far(0, 3), 1);
        due("the longer one alone is left", x.far(x.leads(0, 0), 3), 2);
        Due.read(x, "G(c>Nd)");
        due("the shortest way to break it", x.far(0, 2), 2);
        due("from within", x.far(1, 2), 1);
        due("back to kept so far", x.far(1, 1), 1);
        Due.read(x, "NNa/b");
        due("at once", x.far(0, 3), 1);
        due("else behind three", x.far(x.leads(0, 0), 3), 2);
        due("broken behind three", x.far(0, 2), 3);
    }

    /** Promise 8: "NONE: none do". */
    private static void farToNone() {
        RunWatcher x = Due.with("aUb");
        for (int verdict = 0; verdict < 4; verdict++) {
            due("far(2, " + verdict + ")", x.far(2, verdict), verdict == 3 ? 0 : NONE);
            due("far(3, " + verdict + ")", x.far(3, verdict), verdict == 2 ? 0 : NONE);
        }
        due("nothing leads back to the first", x.far(1, 1), NONE);
        Due.read(x, "G(a>Fb)");
        due("there is none at all", x.far(0, 2), NONE);
        due("there is none at all", x.far(1, 3), NONE);
        Due.read(x, ".");
        for (int verdict = 0; verdict < 4; verdict++) {
            due(". far(0, " + verdict + ")", x.far(0, verdict), verdict == 3 ? 0 : NONE);
            due(". toward(0, " + verdict + ")", x.toward(0, verdict), NONE);
        }
    }

    /** Promise 9: "The first EVENT (a ahead of b, ..) of a row of as few". */
    private static void towardIsTheFirstOfTheFewest() {
        toward("b/c", 3, 1);
        toward("c/d", 3, 2);
        toward("d", 3, 3);
        toward("d", 2, 0);
        toward("a", 2, 1);
        toward("!a", 3, 1);
        toward("a/b", 2, 2);
        toward("a/b/c", 2, 3);
        toward("(a&NNb)/c", 3, 2);
        toward("(b&Na)/(c&Na)", 3, 1);
        toward("NNa/d", 3, 3);
        toward("NNa", 3, 0);
        RunWatcher x = Due.with("(a&Nd)/(b&Nc)");
        due("then d", x.toward(x.leads(0, 0), 3), 3);
        due("then c", x.toward(x.leads(0, 1), 3), 2);
        due("a is the first of both", x.toward(0, 3), 0);
        due("else a breaks it", x.toward(x.leads(0, 0), 2), 0);
    }

    private static void toward(String rule, int verdict, int want) {
        due(rule + " toward(0, " + verdict + ")", Due.with(rule).toward(0, verdict), want);
    }

    /** Promise 9: "NONE: it is one, or none do." */
    private static void towardIsNone() {
        RunWatcher x = Due.with("aUb");
        due("it is one: 1", x.toward(0, 1), NONE);
        due("it is one: 0", x.toward(1, 0), NONE);
        due("it is one: 3", x.toward(2, 3), NONE);
        due("it is one: 2", x.toward(3, 2), NONE);
        due("none do", x.toward(1, 1), NONE);
        due("none do", x.toward(2, 0), NONE);
        due("none do", x.toward(3, 3), NONE);
        Due.read(x, "G(a>Fb)");
        due("it is one and can be left and met again", x.toward(0, 1), NONE);
        due("it is not one", x.toward(0, 0), 0);
        due("none do", x.toward(0, 2), NONE);
    }

    /** Promises 8 and 9: "OUTSIDE: verdict is not 0 .. 3". */
    private static void verdictsAskedFor() {
        RunWatcher x = Due.with("aUb");
        due("far(0, 0)", x.far(0, 0), 1);
        due("far(0, 3)", x.far(0, 3), 1);
        due("far(0, 4)", x.far(0, 4), OUTSIDE);
        due("far(0, -1)", x.far(0, -1), OUTSIDE);
        due("toward(0, 0)", x.toward(0, 0), 0);
        due("toward(0, 3)", x.toward(0, 3), 1);
        due("toward(0, 4)", x.toward(0, 4), OUTSIDE);
        due("toward(0, -1)", x.toward(0, -1), OUTSIDE);
        for (int far : FAR_OFF) {
            due("far(0, " + far + ")", x.far(0, far), OUTSIDE);
            due("toward(0, " + far + ")", x.toward(0, far), OUTSIDE);
        }
    }

    /** Promise 10: "rows of n EVENTS (0 ..": the row of none leads to the state itself. */
    private static void runsOfNoEvents() {
        RunWatcher x = Due.with("aUb");
        int[] want = {1, 0, 1, 0};
        for (int state = 0; state < 4; state++) {
            due("runs(" + state + ", 0)", x.runs(state, 0), want[state]);
            due("run(" + state + ", 0, 0)", x.run(state, 0, 0), NONE);
        }
    }

    /** Promise 10: ".. 25)". */
    private static void runsOfTwentyFive() {
        RunWatcher x = Due.with("!a");
        due("3 * 4^24", x.runs(0, 25), 3L << 48);
        due("3 * 4^23", x.runs(0, 24), 3L << 46);
        due("26", x.runs(0, 26), OUTSIDE);
        due("sure and kept", x.runs(1, 25), 0);
        due("sure and not kept", x.runs(2, 25), 1L << 50);
        Due.read(x, "Ga");
        due("one row alone", x.runs(0, 25), 1);
        due("its last event", x.run(0, 25, 24), 0);
        due("none beyond", x.run(0, 25, 25), NONE);
    }

    /** "Numbers told as longs may be beyond ints; refusals are told likewise." */
    private static void runsBeyondInts() {
        RunWatcher x = Due.with(".");
        for (int n = 0; n <= 25; n++) {
            due("4^" + n, x.runs(0, n), 1L << (2 * n));
        }
        due("refused: the state", x.runs(1, 25), -1L);
        due("refused: n", x.runs(0, 26), -2L);
        due("refused: no rule", new RunWatcher().runs(0, 25), -3L);
    }

    /** Promise 10: "How many rows of n EVENTS lead from a STATE to one that is kept." */
    private static void runsCount() {
        RunWatcher x = Due.with("aUb");
        long sum = 0;
        for (int n = 1; n <= 25; n++) {
            sum = 4 * sum + 1;
            due("aUb runs(0, " + n + ")", x.runs(0, n), sum);
            due("aUb runs(1, " + n + ")", x.runs(1, n), sum);
        }
        Due.read(x, "N.");
        due("of one event", x.runs(0, 1), 0);
        due("of two", x.runs(0, 2), 16);
        Due.read(x, "W!.");
        due("of one event", x.runs(0, 1), 4);
        due("of two", x.runs(0, 2), 0);
        Due.read(x, "!.");
        due("of none", x.runs(0, 0), 1);
        due("of one", x.runs(0, 1), 0);
        due("of 25", x.runs(0, 25), 0);
    }

    private static void firstRow(String rule, int n, String row) {
        RunWatcher x = Due.with(rule);
        for (int i = 0; i < n; i++) {
            due(rule + " run(0, " + n + ", " + i + ")", x.run(0, n, i), row.charAt(i) - 'a');
        }
        due(rule + " run(0, " + n + ", " + n + ")", x.run(0, n, n), NONE);
    }

    /** Promise 11: "the first (a ahead of b, ..; place by place) of these rows". */
    private static void runTakesTheFirstRow() {
        firstRow("aUb", 1, "b");
        firstRow("aUb", 2, "ab");
        firstRow("aUb", 5, "aaaab");
        firstRow("(b&Na)/(a&Nd)", 2, "ad");
        firstRow("(b&Na)/(c&Na)", 2, "ba");
        firstRow("c/d", 3, "caa");
        firstRow("Fd", 4, "aaad");
        firstRow("F(c&Nb)&Fd", 4, "acbd");
        firstRow("F(c&Nb)&Fd", 3, "cbd");
        firstRow("Gd", 25, "ddddddddddddddddddddddddd");
        firstRow(".", 25, "aaaaaaaaaaaaaaaaaaaaaaaaa");
        firstRow("NNNNNNNNd", 9, "aaaaaaaad");
        RunWatcher x = Due.with("aUb");
        due("from another state", x.run(1, 3, 2), 1);
        due("from one that is sure", x.run(2, 3, 2), 0);
    }

    /** Promise 11: "NONE: there is none". */
    private static void runWithoutRow() {
        RunWatcher x = Due.with("aUb");
        for (int n = 0; n <= 25; n++) {
            due("run(3, " + n + ", 0)", x.run(3, n, 0), NONE);
        }
        due("run(3, 25, 24)", x.run(3, 25, 24), NONE);
        Due.read(x, "NNa");
        due("too few events", x.run(0, 2, 0), NONE);
        due("too few events", x.run(0, 2, 1), NONE);
        due("just enough", x.run(0, 3, 0), 0);
        Due.read(x, "W!.");
        due("too many events", x.run(0, 2, 0), NONE);
        due("not too many", x.run(0, 1, 0), 0);
    }

    /** Promise 11: "or i is none of 0 .. n - 1". */
    private static void runAtEachPlace() {
        RunWatcher x = Due.with("Gb");
        for (int n = 0; n <= 25; n++) {
            due("i is 0 of " + n, x.run(0, n, 0), n == 0 ? NONE : 1);
            due("i is -1 of " + n, x.run(0, n, -1), NONE);
            due("i is n - 1 of " + n, x.run(0, n, n - 1), n == 0 ? NONE : 1);
            due("i is n of " + n, x.run(0, n, n), NONE);
        }
        for (int far : FAR_OFF) {
            due("i is " + far, x.run(0, 25, far), NONE);
        }
    }

    /** Promises 10 and 11: "n EVENTS (0 .. 25)", "OUTSIDE: n". */
    private static void numbersOfEvents() {
        RunWatcher x = Due.with("Gb");
        due("n is 0", x.runs(0, 0), 1);
        due("n is 25", x.runs(0, 25), 1);
        due("n is -1", x.runs(0, -1), OUTSIDE);
        due("n is 26", x.runs(0, 26), OUTSIDE);
        due("run: n is 25", x.run(0, 25, 24), 1);
        due("run: n is -1", x.run(0, -1, 0), OUTSIDE);
        due("run: n is -1, i is -1", x.run(0, -1, -1), OUTSIDE);
        due("run: n is 26", x.run(0, 26, 25), OUTSIDE);
        due("run: n is 26, i is 26", x.run(0, 26, 26), OUTSIDE);
        for (int far : FAR_OFF) {
            due("runs(0, " + far + ")", x.runs(0, far), OUTSIDE);
            due("run(0, " + far + ", 0)", x.run(0, far, 0), OUTSIDE);
        }
        due("run: n is 26 where there is no row", Due.with("aUb").run(3, 26, 0), OUTSIDE);
    }

    /** "UNKNOWN (there is no such STATE ..)", of promises 6 to 11. */
    private static void statesThatAreNot() {
        for (String rule : new String[] {".", "!.", "aUb", "NNNNNNNNa", "G(aUYYYYYa)"}) {
            RunWatcher x = Due.with(rule);
            int size = x.count(0);
            for (int state : new int[] {-1, size - 1, size, size + 1}) {
                boolean is = state == size - 1;
                due(rule + " verdict(" + state + ")", Math.min(x.verdict(state), 0), is ? 0 : UNKNOWN);
                due(rule + " far(" + state + ", 3)", x.far(state, 3) == UNKNOWN ? 1 : 0, is ? 0 : 1);
                due(rule + " toward(" + state + ", 3)", x.toward(state, 3) == UNKNOWN ? 1 : 0, is ? 0 : 1);
                due(rule + " runs(" + state + ", 3)", Math.min(x.runs(state, 3), 0), is ? 0 : UNKNOWN);
                due(rule + " run(" + state + ", 3, 0)", x.run(state, 3, 0) == UNKNOWN ? 1 : 0, is ? 0 : 1);
                due(rule + " leads(" + state + ", 0)", Math.min(x.leads(state, 0), 0), is ? 0 : UNKNOWN);
            }
        }
        for (int far : FAR_OFF) {
            RunWatcher x = Due.with("aUb");
            due("far(" + far + ", 1)", x.far(far, 1), UNKNOWN);
            due("toward(" + far + ", 1)", x.toward(far, 1), UNKNOWN);
            due("runs(" + far + ", 1)", x.runs(far, 1), UNKNOWN);
            due("run(" + far + ", 1, 0)", x.run(far, 1, 0), UNKNOWN);
        }
    }

    /** "STATE: there is no RULE", of promises 6 to 11: also behind a read() that found a fault. */
    private static void withoutRule() {
        RunWatcher fresh = new RunWatcher();
        RunWatcher faulty = new RunWatcher();
        Due.read(faulty, "a b");
        RunWatcher full = new RunWatcher();
        Due.read(full, "FGYYYYYa");
        RunWatcher unread = new RunWatcher();
        Due.feed(unread, "a");
        for (RunWatcher x : new RunWatcher[] {fresh, faulty, full, unread}) {
            due("leads(0, 0)", x.leads(0, 0), STATE);
            due("verdict(0)", x.verdict(0), STATE);
            due("far(0, 0)", x.far(0, 0), STATE);
            due("toward(0, 0)", x.toward(0, 0), STATE);
            due("runs(0, 0)", x.runs(0, 0), STATE);
            due("run(0, 0, 0)", x.run(0, 0, 0), STATE);
        }
    }

    /** "REFUSALS, of several the first that a call names": STATE; UNKNOWN; OUTSIDE. */
    private static void firstRefusal() {
        RunWatcher x = new RunWatcher();
        due("leads: STATE ahead of UNKNOWN", x.leads(-1, 4), STATE);
        due("verdict: STATE ahead of UNKNOWN", x.verdict(-1), STATE);
        due("far: STATE ahead of both", x.far(-1, 4), STATE);
        due("far: STATE ahead of OUTSIDE", x.far(0, 4), STATE);
        due("toward: STATE ahead of both", x.toward(-1, 4), STATE);
        due("toward: STATE ahead of OUTSIDE", x.toward(0, -1), STATE);
        due("runs: STATE ahead of both", x.runs(-1, 26), STATE);
        due("runs: STATE ahead of OUTSIDE", x.runs(0, -1), STATE);
        due("run: STATE ahead of both", x.run(-1, 26, 0), STATE);
        due("run: STATE ahead of OUTSIDE", x.run(0, 26, 0), STATE);
        due("run: STATE ahead of NONE", x.run(0, 0, -1), STATE);
        Due.read(x, "aUb");
        due("far: UNKNOWN ahead of OUTSIDE", x.far(4, 4), UNKNOWN);
        due("far: UNKNOWN ahead of OUTSIDE", x.far(-1, -1), UNKNOWN);
        due("toward: UNKNOWN ahead of OUTSIDE", x.toward(4, 4), UNKNOWN);
        due("toward: UNKNOWN ahead of OUTSIDE", x.toward(-1, -1), UNKNOWN);
        due("runs: UNKNOWN ahead of OUTSIDE", x.runs(4, 26), UNKNOWN);
        due("runs: UNKNOWN ahead of OUTSIDE", x.runs(-1, -1), UNKNOWN);
        due("run: UNKNOWN ahead of OUTSIDE", x.run(4, 26, 0), UNKNOWN);
        due("run: UNKNOWN ahead of NONE", x.run(4, 3, 3), UNKNOWN);
        due("run: OUTSIDE ahead of NONE", x.run(3, 26, -1), OUTSIDE);
        due("runs: OUTSIDE of a state that is none kept", x.runs(3, 26), OUTSIDE);
        due("far: OUTSIDE of a state that leads nowhere", x.far(3, 4), OUTSIDE);
    }

    /** Promises 8 to 11 at each state of the greatest watchers, by walking along what leads() tells. */
    private static void eachStateOfMany() {
        for (String rule : new String[] {"(FGYYYYaUb)", "(FGYYYYcUd)", "G(aUYYYYYa)", "F(a&NNNNNb)", "NNNNNNNNc"}) {
            int[][] leads = leadsOf(rule);
            int[] verdicts = verdictsOf(rule);
            for (int verdict = 0; verdict < 4; verdict++) {
                distances(rule, leads, verdicts, verdict);
            }
            ways(rule, leads, verdicts);
        }
    }

    private static void distances(String rule, int[][] leads, int[] verdicts, int verdict) {
        RunWatcher x = Due.with(rule);
        int size = leads.length;
        int[] far = new int[size];
        for (int state = 0; state < size; state++) {
            far[state] = verdicts[state] == verdict ? 0 : size;
        }
        for (int round = 0; round < size; round++) {
            for (int state = 0; state < size; state++) {
                for (int event = 0; event < 4; event++) {
                    far[state] = Math.min(far[state], 1 + far[leads[state][event]]);
                }
            }
        }
        for (int state = 0; state < size; state++) {
            int first = 0;
            while (first < 4 && far[leads[state][first]] != far[state] - 1) {
                first++;
            }
            String call = "(" + state + ", " + verdict + ")";
            due(rule + " far" + call, x.far(state, verdict), far[state] == size ? NONE : far[state]);
            due(rule + " toward" + call, x.toward(state, verdict), far[state] % size == 0 ? NONE : first);
        }
    }

    private static void ways(String rule, int[][] leads, int[] verdicts) {
        int size = leads.length;
        long[] ways = new long[size];
        for (int state = 0; state < size; state++) {
            ways[state] = verdicts[state] & 1;
        }
        for (int n = 0; n <= 25; n++) {
            RunWatcher x = Due.with(rule);
            for (int state = 0; state < size; state++) {
                due(rule + " runs(" + state + ", " + n + ")", x.runs(state, n), ways[state]);
                int got = x.run(state, n, n - 1);
                boolean any = n > 0 && ways[state] > 0;
                due(rule + " run(" + state + ", " + n + ", n - 1) is there", got == NONE ? 0 : 1, any ? 1 : 0);
            }
            long[] longer = new long[size];
            for (int state = 0; state < size; state++) {
                for (int event = 0; event < 4; event++) {
                    longer[state] += ways[leads[state][event]];
                }
            }
            ways = longer;
        }
    }
}
