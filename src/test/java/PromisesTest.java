/** Each promise by itself: ordinary calls, the edges that the document names, what is refused. */
public final class PromisesTest {
    private static final int UNKNOWN = -1, OUTSIDE = -2, STATE = -3, FULL = -4, NONE = -9;

    public static void main(String[] args) {
        constants();
        promise1();
        promise2();
        promise3();
        promise3Faults();
        promise3Meaning();
        promise4();
        promise5();
        promise6();
        promise7();
        promises8And9();
        promise10();
        promise11();
        promise12();
        promise13();
        promise14();
        promises15And16();
        promise17();
        promise18();
        promise19();
        promises20And21();
        promise22();
        Due.end();
    }

    private static void due(String call, long got, long want) {
        Due.due(call, got, want);
    }

    private static void constants() {
        due("UNKNOWN", RunWatcher.UNKNOWN, UNKNOWN);
        due("OUTSIDE", RunWatcher.OUTSIDE, OUTSIDE);
        due("STATE", RunWatcher.STATE, STATE);
        due("FULL", RunWatcher.FULL, FULL);
        due("NONE", RunWatcher.NONE, NONE);
    }

    private static void promise1() {
        RunWatcher x = new RunWatcher();
        for (int what = 0; what < 5; what++) {
            due("1 count(" + what + ")", x.count(what), 0);
        }
        due("1 fault()", x.fault(), 0);
        due("1 leads", x.leads(0, 0), STATE);
        due("1 told", x.told(0), STATE);
        due("1 keep", x.keep(), STATE);
        due("1 cut", x.cut(), 0);
        due("1 read of nothing", x.read(), -100);
        due("1 fault", x.fault(), 1);
    }

    private static void promise2() {
        RunWatcher x = new RunWatcher();
        due("2 feed(0)", x.feed(0), 0);
        due("2 feed ends at 0", x.feed(0x61006261L), 2);
        due("2 feed(-1)", x.feed(-1L), 10);
        due("2 the lowest first: -1's bytes cannot stand behind ab", x.read(), -101);
        due("2 cut", x.cut(), 10);
        due("2 feed ab&", x.feed(0x61_26_62L), 3);
        due("2 read b&a", x.read(), 2);
        for (int i = 1; i <= 7; i++) {
            due("2 feed eight", x.feed(0x2020202020202020L), 8 * i);
        }
        due("2 feed five more", x.feed(0x2020202020L), FULL);
        due("2 nothing came", x.count(3), 56);
        due("2 feed four more", x.feed(0x20202020L), 60);
        due("2 feed none", x.feed(0), 60);
        due("2 feed none: a 0 ends them", x.feed(0x6100L), 60);
        due("2 feed one", x.feed(0x61L), FULL);
        due("2 all sixty are there", x.read(), -160);
    }

    private static void reads(String text, int answer) {
        due("3 read of '" + text + "'", Due.read(new RunWatcher(), text), answer);
    }

    private static void promise3() {
        reads(".", 1);
        reads("!.", 2);
        reads("a", 3);
        reads("aUb", 4);
        reads("  G ( a >F b )  ", 2);
        reads("!!!!!!!!a", 3);
        reads("((((((((a))))))))", 3);
        reads("F(a&NNNNNb)", 34);
        reads("FGYYYYa", 32);
        reads("FGYYYYYa", FULL);
        RunWatcher x = Due.with("aUb");
        x.event(3, 5);
        Due.feed(x, "G(a>Fb)");
        due("3 read anew", x.read(), 2);
        due("3 the tape is empty", x.count(3), 0);
        due("3 keys without events", x.events(5), 0);
        due("3 keys are at 0", x.state(5, 0), 0);
        x.event(0, 5);
        Due.feed(x, "aUb)");
        due("3 read with a fault", x.read(), -103);
        staysThere(x, 4);
        x.cut();
        Due.feed(x, "FGYYYYYa");
        due("3 read of too many states", x.read(), FULL);
        staysThere(x, 8);
    }

    private static void staysThere(RunWatcher x, int bytes) {
        due("3 the tape stays", x.count(3), bytes);
        due("3 the watcher stays", x.count(0), 2);
        due("3 leads stays", x.leads(0, 0), 1);
        due("3 the key stays", x.events(5), 1);
        due("3 the key's state stays", x.state(5, 0), 1);
    }

    private static void faulty(String text, int kind, int at) {
        RunWatcher x = new RunWatcher();
        due("3 read of '" + text + "'", Due.read(x, text), -100 - at);
        due("4 fault of '" + text + "'", x.fault(), kind);
        due("3 there is no rule behind '" + text + "'", x.count(0), 0);
    }

    private static void promise3Faults() {
        faulty("", 1, 0);
        faulty("   ", 1, 3);
        faulty("a b", 1, 2);
        faulty("e", 1, 0);
        faulty("A", 1, 0);
        faulty("a\u00ff", 1, 1);
        faulty("a\tb", 1, 1);
        faulty("Ua", 1, 0);
        faulty("Sa", 1, 0);
        faulty("aU", 1, 2);
        faulty("a!b", 1, 1);
        faulty("aNb", 1, 1);
        faulty("a(b)", 1, 1);
        faulty("()", 1, 1);
        faulty("(a", 1, 2);
        faulty("(a ", 1, 3);
        faulty("a)", 1, 1);
        faulty("(a))", 1, 3);
        faulty("a&&b", 1, 2);
        faulty("a>", 1, 2);
        faulty("!", 1, 1);
        faulty("!!!!!!!!!a", 1, 9);
        faulty("!!!!!!!!!", 1, 9);
        faulty("a&b&c&d&a&b", 1, 9);
        faulty("a&b&c&d&(a&b)", 1, 10);
        faulty("a/b/c/d/a)", 1, 9);
        faulty("(((((((((a)))))))))", 1, 8);
        faulty("((((((((a))))))))&(((((((((a", 1, 26);
        faulty("YNa", 2, 1);
        faulty("YNa)", 1, 3);
        faulty("Y(a>Gb)", 2, 4);
        faulty("O(aUb)", 2, 3);
        faulty("H(a&(b/Fc))", 2, 7);
        faulty("H!Wa", 2, 2);
        faulty("NaSb", 2, 0);
        faulty("aSNb", 2, 2);
        faulty("aSbUc", 2, 3);
        faulty("(aUNb)Sc", 2, 2);
        faulty("(NaUb)Sc", 2, 1);
        faulty("Fa&Y(Gb&Fc)", 2, 5);
        faulty("(Y!Gb)&YFa", 2, 3);
        reads("YaUb", 3);
        reads("aUbSc", 4);
        reads("GHa", 2);
    }

    private static void same(String one, String other, int relation) {
        RunWatcher x = Due.with(one);
        x.keep();
        Due.read(x, other);
        due("3 '" + one + "' and '" + other + "'", x.against() == 1 ? 1 : 0, relation);
    }

    /** What binds what, and what each sign says, told by rules that say the same or do not. */
    private static void promise3Meaning() {
        same("a/b&Nc", "a/(b&Nc)", 1);
        same("a/b&Nc", "(a/b)&Nc", 0);
        same("a&b/Nc", "(a&b)/Nc", 1);
        same("a>b>c", "a>(b>c)", 1);
        same("a>b>c", "(a>b)>c", 0);
        same("a>b/c", "a>(b/c)", 1);
        same("d>a/b", "(d>a)/b", 1);
        same("Na/a>b", "(Na/a)>b", 1);
        same("Na/a>b", "Na/(a>b)", 0);
        same("aUb&Nc", "(aUb)&Nc", 1);
        same("aUb&Nc", "aU(b&Nc)", 0);
        same("aUbUc", "aU(bUc)", 1);
        same("aUbUc", "(aUb)Uc", 0);
        same("FaUb", "(Fa)Ub", 1);
        same("FaUb", "F(aUb)", 0);
        same("!a/.", ".", 1);
        same("!(a/.)", ".", 0);
        same("Wa", "!N!a", 1);
        same("Wa", "Na", 0);
        same("Ga", "!F!a", 1);
        same("Fa", ".Ua", 1);
        same("Fa", "NFa", 0);
        same("GHa", "Ga", 1);
        same("FOa", "Fa", 1);
        same("F(b&Ya)", "F(a&Nb)", 1);
        same("F(b&Y.)", "NFb", 1);
        same("G(d>bSa)", "G!d", 1);
        same("G(d>Y(bSa))", "G!d", 0);
        same("G(d>(!dSa))", "G!d", 1);
        same("F(c&Y(bSa))", "F(a&N(bUc))", 1);
        same("H a", "a", 1);
        same("O a", "a", 1);
        same("bSa", "a", 1);
        same("Y.", "!.", 1);
        same("N.", "NN./N!N.", 1);
        same("W!.", "!N.", 1);
    }

    private static void promise4() {
        RunWatcher x = new RunWatcher();
        due("4 at first", x.fault(), 0);
        Due.read(x, "Ya&YNa");
        due("4 past", x.fault(), 2);
        x.cut();
        Due.feed(x, "a");
        due("4 neither cut nor feed changes it", x.fault(), 2);
        x.read();
        due("4 behind a sound one", x.fault(), 0);
        Due.read(x, "a b");
        due("4 syntax", x.fault(), 1);
        Due.read(x, "FGYYYYYa");
        due("4 the latest read() found none", x.fault(), 0);
    }

    private static void promise5() {
        RunWatcher x = new RunWatcher();
        Due.feed(x, "aUb&c d  ");
        due("5 cut", x.cut(), 9);
        due("5 nothing is left", x.count(3), 0);
        due("5 cut again", x.cut(), 0);
        Due.feed(x, "a");
        due("5 what comes next stands alone", x.read(), 3);
    }

    private static void promise6() {
        RunWatcher x = new RunWatcher();
        due("6 no rule ahead of unknown", x.leads(-1, 9), STATE);
        Due.read(x, "aUb");
        int[][] want = {{1, 2, 3, 3}, {1, 2, 3, 3}, {2, 2, 2, 2}, {3, 3, 3, 3}};
        for (int state = 0; state < 4; state++) {
            for (int event = 0; event < 4; event++) {
                due("6 leads(" + state + ", " + event + ")", x.leads(state, event), want[state][event]);
            }
        }
        due("6 state 4", x.leads(4, 0), UNKNOWN);
        due("6 state -1", x.leads(-1, 0), UNKNOWN);
        due("6 state so great that it wraps", x.leads(1 << 30, 0), UNKNOWN);
        due("6 event 4", x.leads(0, 4), UNKNOWN);
        due("6 event -1", x.leads(1, -1), UNKNOWN);
        Due.read(x, "d>Na");
        due("6 numbered as met", x.leads(0, 0), 1);
        due("6 numbered as met", x.leads(0, 3), 2);
        due("6 numbered as met", x.leads(2, 1), 3);
    }

    private static void promise7() {
        RunWatcher x = new RunWatcher();
        due("7 no rule", x.verdict(-1), STATE);
        Due.read(x, "aUb");
        int[] want = {1, 0, 3, 2};
        for (int state = 0; state < 4; state++) {
            due("7 verdict(" + state + ")", x.verdict(state), want[state]);
        }
        due("7 verdict(4)", x.verdict(4), UNKNOWN);
        due("7 verdict(-1)", x.verdict(-1), UNKNOWN);
        Due.read(x, ".");
        due("7 always kept", x.verdict(0), 3);
        Due.read(x, "!.");
        due("7 the run without events keeps any rule", x.verdict(0), 1);
        due("7 never kept", x.verdict(1), 2);
        Due.read(x, "NNNa");
        due("7 not sure, though one event more tells the same", x.verdict(1), 0);
        Due.read(x, "WWWa");
        due("7 not sure, though kept one event later", x.verdict(1), 1);
    }

    private static void promises8And9() {
        RunWatcher x = new RunWatcher();
        due("8 no rule", x.far(9, 9), STATE);
        due("9 no rule", x.toward(9, 9), STATE);
        Due.read(x, "NNc");
        int[][] far = {{1, 0, 3, 3}, {0, NONE, 2, 2}, {0, NONE, 1, 1}, {NONE, NONE, 0, NONE}, {NONE, NONE, NONE, 0}};
        int[][] toward = {{0, NONE, 0, 0}, {NONE, NONE, 0, 0}, {NONE, NONE, 0, 2},
            {NONE, NONE, NONE, NONE}, {NONE, NONE, NONE, NONE}};
        for (int state = 0; state < 5; state++) {
            for (int verdict = 0; verdict < 4; verdict++) {
                due("8 far(" + state + ", " + verdict + ")", x.far(state, verdict), far[state][verdict]);
                due("9 toward(" + state + ", " + verdict + ")", x.toward(state, verdict), toward[state][verdict]);
            }
        }
        due("8 unknown ahead of outside", x.far(5, 4), UNKNOWN);
        due("8 state -1", x.far(-1, 0), UNKNOWN);
        due("8 verdict 4 is a key's alone", x.far(0, 4), OUTSIDE);
        due("8 verdict -1", x.far(0, -1), OUTSIDE);
        due("9 unknown ahead of outside", x.toward(5, 4), UNKNOWN);
        due("9 verdict 4", x.toward(0, 4), OUTSIDE);
        due("9 verdict -1", x.toward(0, -1), OUTSIDE);
        Due.read(x, "G(c>Nd)");
        due("8 the shortest way to break it", x.far(0, 2), 2);
        due("9 the shortest way to break it", x.toward(0, 2), 2);
    }

    private static void promise10() {
        RunWatcher x = new RunWatcher();
        due("10 no rule", x.runs(0, 26), STATE);
        Due.read(x, ".");
        due("10 all", x.runs(0, 25), 1L << 50);
        due("10 none of them", x.runs(0, 0), 1);
        due("10 n 26", x.runs(0, 26), OUTSIDE);
        due("10 n -1", x.runs(0, -1), OUTSIDE);
        due("10 unknown ahead of outside", x.runs(1, 26), UNKNOWN);
        Due.read(x, "aUb");
        due("10 the run without events", x.runs(0, 0), 1);
        due("10 not kept so far", x.runs(1, 0), 0);
        due("10 one", x.runs(0, 1), 1);
        due("10 two", x.runs(0, 2), 5);
        due("10 three", x.runs(0, 3), 21);
        due("10 sure", x.runs(2, 24), 1L << 48);
        due("10 sure not", x.runs(3, 25), 0);
    }

    private static void promise11() {
        RunWatcher x = new RunWatcher();
        due("11 no rule", x.run(7, 26, 0), STATE);
        Due.read(x, "F(c&Nb)&F(d&Na)");
        due("11 no rule stands behind a fault", x.run(0, 4, 0), STATE);
        Due.read(x, "F(c&Nb)&Fd");
        int[] want = {0, 0, 2, 1, 3};
        for (int i = 0; i < 5; i++) {
            due("11 run(0, 5, " + i + ")", x.run(0, 5, i), want[i]);
        }
        due("11 i is 5", x.run(0, 5, 5), NONE);
        due("11 i is -1", x.run(0, 5, -1), NONE);
        due("11 there is none", x.run(0, 2, 0), NONE);
        due("11 the least row", x.run(0, 3, 0), 2);
        due("11 n 0", x.run(0, 0, 0), NONE);
        due("11 n 25", x.run(0, 25, 24), 3);
        due("11 n 26", x.run(0, 26, 0), OUTSIDE);
        due("11 n -1", x.run(0, -1, -1), OUTSIDE);
        due("11 unknown ahead of outside", x.run(60, 26, 0), UNKNOWN);
    }

    private static void promise12() {
        RunWatcher x = new RunWatcher();
        due("12 no rule ahead of unknown", x.event(4, 16), STATE);
        Due.read(x, "aUb");
        due("12 a", x.event(0, 0), 0);
        due("12 b", x.event(1, 0), 3);
        due("12 behind its being let go", x.event(3, 0), 3);
        due("12 another key", x.event(3, 15), 2);
        due("12 event 4", x.event(4, 0), UNKNOWN);
        due("12 event -1", x.event(-1, 1), UNKNOWN);
        due("12 key 16", x.event(0, 16), UNKNOWN);
        due("12 key -1", x.event(0, -1), UNKNOWN);
        due("12 the others have no events", x.events(1), 0);
        Due.read(x, "G(a>Fb)");
        due("12 kept so far", x.event(1, 3), 1);
        due("12 not kept so far", x.event(0, 3), 0);
        x.lost(3, 1);
        due("12 in both states", x.event(2, 3), 4);
        due("12 whatever was lost", x.event(0, 3), 0);
    }

    private static void promise13() {
        RunWatcher x = new RunWatcher();
        due("13 no rule", x.lost(16, 0), STATE);
        Due.read(x, "NNNa");
        due("13 key 16 ahead of n", x.lost(16, 0), UNKNOWN);
        due("13 key -1", x.lost(-1, 1), UNKNOWN);
        due("13 n 0", x.lost(0, 0), OUTSIDE);
        due("13 n 101", x.lost(0, 101), OUTSIDE);
        due("13 nothing changed", x.may(0), 1);
        x.event(0, 0);
        due("13 one lost: all are not kept", x.lost(0, 1), 0);
        due("13 two states", x.may(0), 2);
        due("13 two more", x.lost(0, 2), 4);
        due("13 up to all", x.may(0), 5);
        due("13 a hundred", x.lost(1, 100), 4);
        due("13 all states", x.may(1), 6);
        due("13 lost ones do not count", x.events(1), 0);
        x.event(0, 2);
        x.event(0, 2);
        x.event(0, 2);
        due("13 behind sureness", x.event(1, 2), 2);
        due("13 nothing is lost of what is let go", x.lost(2, 50), 2);
        due("13 one state", x.may(2), 1);
    }

    private static void promise14() {
        RunWatcher x = new RunWatcher();
        due("14 no rule", x.told(-1), STATE);
        Due.read(x, "Fa");
        due("14 key 16", x.told(16), UNKNOWN);
        due("14 key -1", x.told(-1), UNKNOWN);
        due("14 at first", x.told(15), 1);
        x.event(1, 4);
        due("14 not kept so far", x.told(4), 0);
        x.lost(4, 1);
        due("14 some not kept so far, some sure and kept", x.told(4), 4);
        x.event(0, 4);
        due("14 all sure", x.told(4), 3);
        Due.read(x, "W(a/b/c/d)");
        due("14 a rule that all keep", x.told(4), 3);
        Due.read(x, "WWa");
        x.event(0, 2);
        due("14 kept so far", x.told(2), 1);
        due("14 all kept so far", x.lost(2, 1), 1);
        due("14 all that, or sure", x.lost(2, 1), 4);
        allKeptSomeSure(x);
        allNotSomeSure(x);
    }

    private static void allKeptSomeSure(RunWatcher x) {
        Due.read(x, "WWa/b");
        due("14 kept and sure, or kept so far", x.lost(0, 1), 1);
        due("14 it may be in three states", x.may(0), 3);
        due("14 it is not let go", x.count(2), 0);
        due("14 its events come", x.event(1, 0), 1);
        due("14 its events count", x.events(0), 1);
        due("14 till nothing else is left", x.event(0, 0), 3);
        due("14 now it is let go", x.count(2), 1);
    }

    private static void allNotSomeSure(RunWatcher x) {
        Due.read(x, "a&NNb");
        x.event(0, 0);
        due("14 not kept so far", x.lost(0, 1), 0);
        x.event(0, 0);
        due("14 not kept and sure, or not kept so far", x.told(0), 0);
        due("14 it may be in two states", x.may(0), 2);
        due("14 it is not let go", x.count(2), 0);
        due("14 events come", x.events(0), 2);
        due("14 not kept at all or kept", x.event(1, 0), 4);
    }

    private static void promises15And16() {
        RunWatcher x = new RunWatcher();
        due("15 no rule", x.may(99), STATE);
        due("16 no rule", x.state(99, 0), STATE);
        Due.read(x, "NNNa");
        due("15 key 16", x.may(16), UNKNOWN);
        due("15 key -1", x.may(-1), UNKNOWN);
        due("16 key 16", x.state(16, 0), UNKNOWN);
        due("16 key -1", x.state(-1, 0), UNKNOWN);
        due("15 one", x.may(9), 1);
        due("16 it", x.state(9, 0), 0);
        due("16 no other", x.state(9, 1), NONE);
        due("16 none ahead", x.state(9, -1), NONE);
        x.event(1, 9);
        x.lost(9, 2);
        due("15 three", x.may(9), 3);
        for (int i = 0; i < 3; i++) {
            due("16 state(9, " + i + ")", x.state(9, i), i + 1);
        }
        due("16 state(9, 3)", x.state(9, 3), NONE);
        due("16 a great i", x.state(9, Integer.MAX_VALUE), NONE);
        due("16 the least i", x.state(9, Integer.MIN_VALUE), NONE);
        Due.read(x, "F(a&NNNNNb)");
        x.lost(0, 100);
        due("15 all", x.may(0), 34);
        due("16 the last", x.state(0, 33), 33);
    }

    private static void promise17() {
        RunWatcher x = new RunWatcher();
        due("17 no rule", x.events(16), STATE);
        Due.read(x, "aUb");
        due("17 key 16", x.events(16), UNKNOWN);
        due("17 key -1", x.events(-1), UNKNOWN);
        due("17 none", x.events(2), 0);
        x.event(0, 2);
        x.event(0, 2);
        due("17 two", x.events(2), 2);
        x.lost(2, 7);
        due("17 lost ones do not count", x.events(2), 2);
        x.event(4, 2);
        due("17 what is refused does not count", x.events(2), 2);
        x.anew(2);
        x.event(1, 2);
        x.event(1, 2);
        due("17 not behind its being let go", x.events(2), 1);
        Due.read(x, ".");
        x.event(0, 2);
        due("17 let go from the first", x.events(2), 0);
    }

    private static void promise18() {
        RunWatcher x = new RunWatcher();
        due("18 no rule", x.anew(16), STATE);
        Due.read(x, "aUb");
        due("18 key 16", x.anew(16), UNKNOWN);
        due("18 key -1", x.anew(-1), UNKNOWN);
        x.event(3, 6);
        x.event(0, 7);
        due("18 its verdict ahead", x.anew(6), 2);
        due("18 its verdict then", x.told(6), 1);
        due("18 its events", x.events(6), 0);
        due("18 one state", x.may(6), 1);
        due("18 it is watched again", x.event(1, 6), 3);
        due("18 the others stay", x.events(7), 1);
        x.lost(7, 1);
        due("18 of several states", x.anew(7), 4);
        due("18 again", x.anew(7), 1);
    }

    private static void promise19() {
        RunWatcher x = new RunWatcher();
        due("19 no rule", x.keep(), STATE);
        due("19 nothing is kept", x.count(4), 0);
        Due.read(x, "aUb");
        due("19 how many states", x.keep(), 4);
        due("19 one is kept", x.count(4), 1);
        Due.read(x, "G(a>Fb)");
        due("19 it stays with another rule", x.against(), 0);
        due("19 instead of what was", x.keep(), 2);
        due("19 the same", x.against(), 1);
        x.event(0, 0);
        x.keep();
        due("19 keys stay", x.events(0), 1);
    }

    private static void against(String held, String now, int relation, int apart) {
        RunWatcher x = Due.with(held);
        x.keep();
        Due.read(x, now);
        due("20 '" + now + "' against '" + held + "'", x.against(), relation);
        due("21 '" + now + "' apart from '" + held + "'", x.apart(), apart);
    }

    private static void promises20And21() {
        RunWatcher x = new RunWatcher();
        due("20 no rule", x.against(), STATE);
        due("21 no rule", x.apart(), STATE);
        Due.read(x, "a");
        due("20 none kept", x.against(), STATE);
        due("21 none kept", x.apart(), STATE);
        against("a", "a", 1, NONE);
        against("Fa", "!G!a", 1, NONE);
        against("!.", "a&b", 1, NONE);
        against("a", "b", 2, 1);
        against("a", "!.", 2, 1);
        against("!.", "a", 2, 1);
        against("Ga", "F!a", 2, 1);
        against("Fa", "Ga", 3, 2);
        against("Fa", "a&NNb", 3, 1);
        against("NNNa&Na", "NNNa", 4, 4);
        against("Ga", "Fa", 4, 2);
        against("Fa", "Fb", 0, 1);
        against("Na", "Nb", 2, 2);
        against("Wa", "Wb", 0, 2);
        against(".", "!.", 2, 1);
        against("!.", ".", 2, 1);
        against(".", "WWWWa", 3, 5);
    }

    private static void promise22() {
        RunWatcher x = new RunWatcher();
        due("22 what 5", x.count(5), OUTSIDE);
        due("22 what -1", x.count(-1), OUTSIDE);
        due("22 what is least", x.count(Integer.MIN_VALUE), OUTSIDE);
        Due.read(x, "aUb");
        Due.feed(x, "a b c");
        due("22 states", x.count(0), 4);
        due("22 sure ones", x.count(1), 2);
        due("22 keys let go", x.count(2), 0);
        due("22 bytes", x.count(3), 5);
        due("22 kept", x.count(4), 0);
        x.event(1, 0);
        x.event(3, 15);
        x.event(0, 3);
        x.keep();
        due("22 keys let go", x.count(2), 2);
        due("22 kept", x.count(4), 1);
        x.anew(15);
        due("22 keys let go", x.count(2), 1);
        due("22 outside still", x.count(5), OUTSIDE);
        Due.read(x, ".");
        due("22 all keys are let go from the first", x.count(2), 16);
        due("22 sure", x.count(1), 1);
    }
}
