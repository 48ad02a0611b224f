/**
 * The document's edges, sentence by sentence: promises 19 to 22. Each function is one sentence,
 * which stands above it.
 */
public final class EdgesOfTwoRulesTest {
    private static final int OUTSIDE = -2, STATE = -3, NONE = -9;

    public static void main(String[] args) {
        keepTellsHowManyStates();
        keptInsteadOfWhatWas();
        keptOneStays();
        keepLeavesKeys();
        sameRuns();
        noRunBoth();
        eachOfThisKeepsThat();
        eachOfThatKeepsThis();
        noneOfThese();
        firstThatIsSo();
        runWithoutEventsIsNoRunHere();
        runsThatLeadBackToTheFirst();
        fewestEventsApart();
        apartNone();
        toldAnewEachTime();
        manyPairsOfStates();
        withoutRule();
        noneKept();
        eachCount();
        countOutside();
        Due.end();
    }

    private static void due(String call, long got, long want) {
        Due.due(call, got, want);
    }

    private static RunWatcher two(String kept, String now) {
        RunWatcher x = Due.with(kept);
        x.keep();
        Due.read(x, now);
        return x;
    }

    private static void against(String kept, String now, int relation, int apart) {
        RunWatcher x = two(kept, now);
        due("'" + now + "' against '" + kept + "'", x.against(), relation);
        due("'" + now + "' apart from '" + kept + "'", x.apart(), apart);
        due("'" + now + "' against '" + kept + "' again", x.against(), relation);
    }

    /** Promise 19: "THE WATCHER is kept ..: how many STATES. STATE." */
    private static void keepTellsHowManyStates() {
        RunWatcher x = new RunWatcher();
        due("no rule", x.keep(), STATE);
        due("none is kept", x.count(4), 0);
        Due.read(x, "a b");
        due("no rule behind a fault", x.keep(), STATE);
        Due.read(x, "FGYYYYYa");
        due("no rule behind too many states", x.keep(), STATE);
        due("none is kept", x.count(4), 0);
        Due.read(x, ".");
        due("one state", x.keep(), 1);
        due("one is kept", x.count(4), 1);
        Due.read(x, "(FGYYYYaUb)");
        due("fifty states", x.keep(), 50);
        due("one is kept", x.count(4), 1);
        due("the same", x.against(), 1);
    }

    /** Promise 19: "(instead of what was)". */
    private static void keptInsteadOfWhatWas() {
        RunWatcher x = two("Fa", "Fb");
        due("Fb against Fa", x.against(), 0);
        due("two keeps", x.keep(), 3);
        due("Fb against Fb", x.against(), 1);
        due("keep again", x.keep(), 3);
        due("Fb against Fb still", x.against(), 1);
        Due.read(x, "Fa");
        due("Fa against Fb", x.against(), 0);
        Due.read(x, "(FGYYYYaUb)");
        due("many states", x.keep(), 50);
        Due.read(x, ".");
        due("then one", x.keep(), 1);
        Due.read(x, "!.");
        due("!. against .", x.against(), 2);
        due("apart", x.apart(), 1);
    }

    /** What is kept is what was there then: no read(), fault, cut or key changes it. */
    private static void keptOneStays() {
        RunWatcher x = two("Fa", "!G!a");
        due("the same", x.against(), 1);
        x.event(0, 0);
        x.lost(1, 3);
        due("keys change nothing", x.against(), 1);
        Due.feed(x, "e");
        x.read();
        due("a fault changes nothing", x.against(), 1);
        x.cut();
        Due.feed(x, "FGYYYYYa");
        x.read();
        due("too many states change nothing", x.against(), 1);
        due("one is kept", x.count(4), 1);
        Due.read(x, "Ga");
        due("another rule is held against it", x.against(), 3);
        due("another rule is held against it", x.apart(), 2);
    }

    /** "THE WATCHER is kept": it stays there too, with its keys. */
    private static void keepLeavesKeys() {
        RunWatcher x = Due.with("aUb");
        x.event(0, 3);
        x.event(1, 4);
        x.lost(5, 1);
        Due.feed(x, "Fa");
        due("keep", x.keep(), 4);
        due("states", x.count(0), 4);
        due("events of 3", x.events(3), 1);
        due("told of 4", x.told(4), 3);
        due("may of 5", x.may(5), 4);
        due("let go", x.count(2), 1);
        due("the tape", x.count(3), 2);
    }

    /** Promise 20: "are kept by the same RUNS of one EVENT and more (1)". */
    private static void sameRuns() {
        against("a", "a", 1, NONE);
        against("Fa", "!G!a", 1, NONE);
        against("aUb", "bUb/(aU(a&Nb))", 1, NONE);
        against("GFa", "FGa", 1, NONE);
        against("a>b", "!a", 1, NONE);
        against("NYa", "a&N.", 1, NONE);
    }

    /** Promise 20: "by no such RUN both (2)". */
    private static void noRunBoth() {
        against("a", "b", 2, 1);
        against("Fa", "G!a", 2, 1);
        against("Na", "W!a", 2, 1);
        against("N.", "!N.", 2, 1);
        against("NNa", "NNb", 2, 3);
    }

    /** Promise 20: "each such RUN that keeps this one keeps that one (3)": this is the RULE. */
    private static void eachOfThisKeepsThat() {
        against("Fa", "a", 3, 2);
        against("Fa", "Ga", 3, 2);
        against("a/b", "b", 3, 1);
        against(".", "WWWWa", 3, 5);
        against("Wa", "Na", 3, 1);
    }

    /** Promise 20: "the other way round (4)". */
    private static void eachOfThatKeepsThis() {
        against("a", "Fa", 4, 2);
        against("Ga", "Fa", 4, 2);
        against("b", "a/b", 4, 1);
        against("WWWWa", ".", 4, 5);
        against("Na", "Wa", 4, 1);
    }

    /** Promise 20: "none of these (0)". */
    private static void noneOfThese() {
        against("Fa", "Fb", 0, 1);
        against("Wa", "Wb", 0, 2);
        against("a/b", "b/c", 0, 1);
        against("NNNNNNa/b", "NNNNNa/b", 0, 6);
    }

    /** Promise 20: "the first that is so", where several are. */
    private static void firstThatIsSo() {
        against("a&b", "!.", 1, NONE);
        against("!.", "!.", 1, NONE);
        against(".", "a/!a", 1, NONE);
        against("a", "!.", 2, 1);
        against("!.", "a", 2, 1);
        against("NNNa", "!.", 2, 4);
        against("!.", "NNNa", 2, 4);
    }

    /** Promise 20: "of one EVENT and more": that without EVENTS, which keeps both, does not count. */
    private static void runWithoutEventsIsNoRunHere() {
        against("!.", ".", 2, 1);
        against(".", "!.", 2, 1);
        against("!.", "a&b", 1, NONE);
        against("N.", "W!.", 2, 1);
        against("Y.", "Y.", 1, NONE);
        against("N.", "NY.", 1, NONE);
    }

    /** A pair of first states that a run of events leads to again counts. */
    private static void runsThatLeadBackToTheFirst() {
        against("Ga", "Ga", 1, NONE);
        against("FGa", "G(a>Fa)", 4, 1);
        against("FGa", "FG!b", 4, 1);
        against("G!b", "G(b>Na)", 4, 2);
        against("Gb", "Ga", 2, 1);
        against("G(a>Fb)", "G!a", 3, 2);
    }

    /** Promise 21: "The fewest EVENTS of a RUN (one at least) that keeps just one of both". */
    private static void fewestEventsApart() {
        against(".", "!.", 2, 1);
        against("a", "b", 2, 1);
        against("Na", "Nb", 2, 2);
        against("NNNNNNNNa", "NNNNNNNNb", 2, 9);
        against("NNNNNNNNa", "!.", 2, 9);
        against("Ga", "a&Wa", 4, 3);
        against("F(a&NNNNb)", "Fa", 4, 1);
    }

    /** Promise 21: "NONE" where the same runs keep both. */
    private static void apartNone() {
        RunWatcher x = Due.with("(FGYYYYaUb)");
        x.keep();
        due("the same", x.apart(), NONE);
        Due.read(x, "FGYYYYaUb");
        due("the same, read anew", x.apart(), NONE);
        Due.read(x, "FGYYYYaUc");
        due("not the same", x.apart(), 1);
    }

    /** What was told of two rules says nothing of the next two. */
    private static void toldAnewEachTime() {
        RunWatcher x = two("NNNNNNNNa", "NNNNNNNNb");
        due("ninth", x.apart(), 9);
        due("none both", x.against(), 2);
        Due.read(x, "NNNNNNa");
        due("seventh", x.apart(), 7);
        due("none of these", x.against(), 0);
        x.keep();
        due("the same", x.apart(), NONE);
        due("the same", x.against(), 1);
        Due.read(x, "NNa");
        due("third", x.apart(), 3);
        due("none of these", x.against(), 0);
        Due.read(x, ".");
        due("first", x.apart(), 1);
        due("that keeps this", x.against(), 4);
        Due.read(x, "!.");
        due("seventh", x.apart(), 7);
        due("none both", x.against(), 2);
    }

    /** The runs that tell two rules apart, or keep both, may be longer than many pairs of states. */
    private static void manyPairsOfStates() {
        against("NNNNNNNNa", "FGYYYYa", 0, 5);
        against("FGYYYYa", "NNNNNNNNa", 0, 5);
        against("(FGYYYYaUb)", "(FGYYYYaUb)", 1, NONE);
        against("GFYYYYa", "FGYYYYa", 1, NONE);
        against("FGYYYYa", "NNNNNNN!.", 2, 5);
        against("FGYYYYa&a", "FGYYYYa", 4, 6);
        against("FGYYYYa", "FGYYYYa&a", 3, 6);
        against("F(a&NNNNNb)", "F(a&NNNNN.)", 4, 6);
        against("F(a&NNNNN.)", "F(a&NNNNNb)", 3, 6);
    }

    /** Promises 19 to 21: "STATE" where there is no RULE. */
    private static void withoutRule() {
        RunWatcher fresh = new RunWatcher();
        RunWatcher faulty = new RunWatcher();
        Due.read(faulty, "");
        RunWatcher full = new RunWatcher();
        Due.read(full, "FGYYYYYa");
        for (RunWatcher x : new RunWatcher[] {fresh, faulty, full}) {
            due("keep", x.keep(), STATE);
            due("against", x.against(), STATE);
            due("apart", x.apart(), STATE);
            due("none is kept", x.count(4), 0);
        }
    }

    /** Promises 20 and 21: "STATE: also if none is kept". */
    private static void noneKept() {
        RunWatcher x = Due.with("a");
        due("against", x.against(), STATE);
        due("apart", x.apart(), STATE);
        Due.read(x, "b");
        due("against, behind another read", x.against(), STATE);
        due("apart, behind another read", x.apart(), STATE);
        x.keep();
        due("against", x.against(), 1);
        due("apart", x.apart(), NONE);
    }

    /** Promise 22: "0 STATES, 1 that are SURE, 2 KEYS that are LET GO, 3 bytes .., 4 whether .. kept". */
    private static void eachCount() {
        RunWatcher x = new RunWatcher();
        counts(x, 0, 0, 0, 0, 0);
        Due.feed(x, "aUb ");
        counts(x, 0, 0, 0, 4, 0);
        x.read();
        counts(x, 4, 2, 0, 0, 0);
        for (int key = 0; key < 16; key++) {
            x.event(key % 2 == 0 ? 1 : 2, key);
            counts(x, 4, 2, key + 1, 0, 0);
        }
        Due.feed(x, " ".repeat(60));
        x.keep();
        counts(x, 4, 2, 16, 60, 1);
        Due.read(x, "G(a>Fb)");
        counts(x, 2, 0, 0, 0, 1);
        Due.read(x, "!.");
        counts(x, 2, 1, 0, 0, 1);
        Due.read(x, ".");
        counts(x, 1, 1, 16, 0, 1);
        Due.read(x, "(FGYYYYaUb)");
        counts(x, 50, 1, 0, 0, 1);
    }

    private static void counts(RunWatcher x, int... want) {
        for (int what = 0; what < 5; what++) {
            due("count(" + what + ")", x.count(what), want[what]);
        }
    }

    /** Promise 22: "OUTSIDE": what is not 0 .. 4, with a RULE or without. */
    private static void countOutside() {
        for (RunWatcher x : new RunWatcher[] {new RunWatcher(), Due.with("a"), two("a", "b")}) {
            for (int what : new int[] {Integer.MIN_VALUE, -256, -5, -4, -3, -2, -1, 5, 6, 8, 16, 32, 64, 256, 257,
                65536, 1 << 30, Integer.MAX_VALUE}) {
                due("count(" + what + ")", x.count(what), OUTSIDE);
            }
            due("count(0)", x.count(0) >= 0 ? 1 : 0, 1);
            due("count(4)", x.count(4) >= 0 ? 1 : 0, 1);
        }
    }
}
