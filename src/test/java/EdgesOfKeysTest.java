import java.util.Set;
import java.util.TreeSet;

/**
 * The document's edges, sentence by sentence: terms 3 (KEYS, LOST, VERDICT of a KEY, LET GO) and
 * promises 12 to 18. Each function is one sentence, which stands above it.
 */
public final class EdgesOfKeysTest {
    private static final int UNKNOWN = -1, OUTSIDE = -2, STATE = -3, NONE = -9;
    /** Numbers that are none of a few from 0 on, whichever way they are cut to fewer bits. */
    private static final int[] FAR_OFF = {Integer.MIN_VALUE, Integer.MIN_VALUE + 1, -(1 << 30), -65536, -257, -256,
        -64, -60, -32, -17, -16, -15, -4, -3, -2, -1, 16, 17, 31, 32, 60, 61, 64, 101, 128, 256, 257, 65536, 1 << 28,
        1 << 29, 1 << 30, (1 << 30) + 1, Integer.MAX_VALUE - 1, Integer.MAX_VALUE};

    public static void main(String[] args) {
        sixteenKeys();
        withoutEventsAtFirst();
        eachHasARunOfItsOwn();
        eventsAToD();
        eventTellsTheVerdictThen();
        zeroToNMayBeLost();
        lostFromEachStateWhereItMayBe();
        oneToAHundredMayBeLost();
        eventBehindLostOnes();
        allOfOneVerdict();
        allKeptThoughSomeAreSure();
        allNotKeptThoughSomeAreSure();
        someKeptSomeNot();
        letGoWhenSureAndKept();
        letGoWhenSureAndNotKept();
        letGoAtTheEventThatMakesItSure();
        letGoBehindLostOnes();
        letGoFromTheFirst();
        notLetGoWhileNotSure();
        lostOfAKeyLetGo();
        mayIsHowMany();
        stateIsTheIthTheLeastFirst();
        eventsAreToldOnesAlone();
        eventsOfManyCalls();
        anewTellsTheVerdictAhead();
        anewOfAKeyLetGo();
        keysThatAreNot();
        eventsThatAreNot();
        withoutRule();
        firstRefusal();
        eachStateOfMany();
        Due.end();
    }

    private static void due(String call, long got, long want) {
        Due.due(call, got, want);
    }

    private static void states(RunWatcher x, int key, int... want) {
        due("may(" + key + ")", x.may(key), want.length);
        for (int i = 0; i < want.length; i++) {
            due("state(" + key + ", " + i + ")", x.state(key, i), want[i]);
        }
        due("state(" + key + ", " + want.length + ")", x.state(key, want.length), NONE);
    }

    private static void events(RunWatcher x, int key, String run) {
        for (char letter : run.toCharArray()) {
            x.event(letter - 'a', key);
        }
    }

    /** "KEYS 0 .. 15": of each call that names one. */
    private static void sixteenKeys() {
        for (int key : new int[] {-1, 0, 1, 14, 15, 16}) {
            boolean is = key >= 0 && key <= 15;
            RunWatcher x = Due.with("NNNa");
            due("told(" + key + ")", x.told(key), is ? 1 : UNKNOWN);
            due("may(" + key + ")", x.may(key), is ? 1 : UNKNOWN);
            due("state(" + key + ", 0)", x.state(key, 0), is ? 0 : UNKNOWN);
            due("events(" + key + ")", x.events(key), is ? 0 : UNKNOWN);
            due("event(0, " + key + ")", x.event(0, key), is ? 0 : UNKNOWN);
            due("lost(" + key + ", 1)", x.lost(key, 1), is ? 0 : UNKNOWN);
            due("anew(" + key + ")", x.anew(key), is ? 0 : UNKNOWN);
        }
    }

    /** "have a RUN each, without EVENTS at first". */
    private static void withoutEventsAtFirst() {
        RunWatcher x = Due.with("Fa");
        for (int key = 0; key < 16; key++) {
            due("events(" + key + ")", x.events(key), 0);
            due("told(" + key + ")", x.told(key), 1);
            states(x, key, 0);
        }
        due("none is let go", x.count(2), 0);
    }

    /** "a RUN each .. each is watched": what comes of one says nothing of another. */
    private static void eachHasARunOfItsOwn() {
        RunWatcher x = Due.with("NNNa");
        for (int key = 0; key < 16; key++) {
            events(x, key, "bbbb".substring(0, key % 4));
            if (key >= 12) {
                x.lost(key, 1);
            }
        }
        x.anew(3);
        for (int key = 0; key < 16; key++) {
            int at = key == 3 ? 0 : key % 4;
            due("events(" + key + ")", x.events(key), at);
            if (key < 12) {
                states(x, key, at);
            } else if (key < 15) {
                states(x, key, at, at + 1);
            } else {
                states(x, key, 3, 4, 5);
            }
        }
    }

    /** "EVENTS are a, b, c, d (0 .. 3)": of each the key's state is the one to which it leads. */
    private static void eventsAToD() {
        for (int event = 0; event < 4; event++) {
            RunWatcher x = Due.with("(a&Na)/(b&Nb)");
            due("event(" + event + ", 0)", x.event(event, 0), event < 2 ? 0 : 2);
            due("its state", x.state(0, 0), x.leads(0, event));
        }
        RunWatcher x = Due.with("d");
        due("event(3, 0)", x.event(3, 0), 3);
        due("event(4, 1)", x.event(4, 1), UNKNOWN);
        due("event(-1, 1)", x.event(-1, 1), UNKNOWN);
        due("event(0, 1)", x.event(0, 1), 2);
    }

    /** Promise 12: "An EVENT of a KEY: its VERDICT then (0 .. 4)." */
    private static void eventTellsTheVerdictThen() {
        RunWatcher x = Due.with("aUb");
        due("0", x.event(0, 0), 0);
        due("3", x.event(1, 0), 3);
        due("2", x.event(2, 1), 2);
        Due.read(x, "G(a>Fb)");
        due("1", x.event(3, 0), 1);
        Due.read(x, "G(a>NNb)");
        x.event(0, 0);
        x.lost(0, 1);
        due("4", x.event(1, 0), 4);
    }

    /** "it may be in any STATE to which 0 to n EVENTS lead": 0 too, n too, and not one more. */
    private static void zeroToNMayBeLost() {
        for (int n = 1; n <= 8; n++) {
            RunWatcher x = Due.with("NNNNNNNNa");
            x.lost(3, n);
            due(n + " lost: may", x.may(3), n + 1);
            due(n + " lost: the least", x.state(3, 0), 0);
            due(n + " lost: the greatest", x.state(3, n), n);
            due(n + " lost: no other", x.state(3, n + 1), NONE);
        }
        RunWatcher x = Due.with("NNNNNNNNa");
        x.lost(0, 9);
        due("9 lost: all", x.may(0), 11);
        x.lost(1, 100);
        due("100 lost: all", x.may(1), 11);
        Due.read(x, "NNNa");
        due("of any kinds", x.lost(0, 4), 4);
        states(x, 0, 0, 1, 2, 3, 4, 5);
        for (String rule : new String[] {"a", "b", "c", "d", "!a", "!b", "!c", "!d"}) {
            Due.read(x, rule);
            due("one of any kind", x.lost(0, 1), 4);
            states(x, 0, 0, 1, 2);
        }
    }

    /** "from one where it may be": one is lost behind others, or behind events. */
    private static void lostFromEachStateWhereItMayBe() {
        RunWatcher x = Due.with("NNNNNNNNa");
        x.lost(0, 1);
        x.lost(0, 1);
        states(x, 0, 0, 1, 2);
        x.event(2, 0);
        states(x, 0, 1, 2, 3);
        x.lost(0, 2);
        states(x, 0, 1, 2, 3, 4, 5);
        events(x, 1, "bbb");
        x.lost(1, 2);
        states(x, 1, 3, 4, 5);
        Due.read(x, "G(c>Nd)");
        x.event(2, 0);
        due("back and on", x.lost(0, 1), 4);
        states(x, 0, 0, 1, 2);
    }

    /** Promise 13: "Up to n (1 .. 100)"; "OUTSIDE". */
    private static void oneToAHundredMayBeLost() {
        RunWatcher x = Due.with("NNNa");
        due("n is 0", x.lost(0, 0), OUTSIDE);
        due("n is -1", x.lost(0, -1), OUTSIDE);
        due("n is 101", x.lost(0, 101), OUTSIDE);
        for (int far : FAR_OFF) {
            if (far < 1 || far > 100) {
                due("n is " + far, x.lost(0, far), OUTSIDE);
            }
        }
        states(x, 0, 0);
        due("n is 1", x.lost(0, 1), 4);
        states(x, 0, 0, 1);
        due("n is 100", x.lost(1, 100), 4);
        due("all states", x.may(1), 6);
        due("n is 99", x.lost(2, 99), 4);
        due("all states", x.may(2), 6);
    }

    /** What is told behind lost ones leads on from each state where the key may be. */
    private static void eventBehindLostOnes() {
        RunWatcher x = Due.with("aUb");
        due("one may be lost", x.lost(0, 1), 4);
        states(x, 0, 0, 1, 2, 3);
        due("a", x.event(0, 0), 4);
        states(x, 0, 1, 2, 3);
        due("b", x.event(1, 0), 4);
        states(x, 0, 2, 3);
        due("a changes nothing any more", x.event(0, 0), 4);
        states(x, 0, 2, 3);
        due("it counts, for the key is not let go", x.events(0), 3);
        due("none is let go", x.count(2), 0);
    }

    /** "VERDICT then: that of all these STATES, if it is one". */
    private static void allOfOneVerdict() {
        RunWatcher x = Due.with("WWWa");
        due("all kept so far", x.lost(0, 2), 1);
        states(x, 0, 0, 1, 2);
        due("told", x.told(0), 1);
        Due.read(x, "NNNa");
        x.event(0, 0);
        due("all not kept so far", x.lost(0, 2), 0);
        states(x, 0, 1, 2, 3);
        due("told", x.told(0), 0);
        Due.read(x, "a");
        x.event(0, 0);
        x.event(1, 1);
        due("sure and kept", x.lost(0, 100), 3);
        due("sure and not kept", x.lost(1, 100), 2);
    }

    /** "1, 0, if all are kept (not) though some are SURE, some not": kept ones. */
    private static void allKeptThoughSomeAreSure() {
        RunWatcher x = Due.with("WWa/b");
        due("kept so far, or for sure", x.lost(0, 1), 1);
        states(x, 0, 0, 1, 2);
        due("one of them is sure", x.verdict(1) + x.verdict(2), 4);
        due("told", x.told(0), 1);
        due("none is let go", x.count(2), 0);
        due("what comes is watched", x.event(1, 0), 1);
        due("and counted", x.events(0), 1);
        due("till it is sure", x.event(0, 0), 3);
        due("one is let go", x.count(2), 1);
    }

    /** "1, 0, if all are kept (not) though some are SURE, some not": those that are not. */
    private static void allNotKeptThoughSomeAreSure() {
        RunWatcher x = Due.with("a&NNb");
        x.event(0, 0);
        x.lost(0, 1);
        due("not kept so far", x.event(0, 0), 0);
        due("in one that is sure and one that is not", x.may(0), 2);
        due("the one", x.verdict(x.state(0, 0)) + x.verdict(x.state(0, 1)), 2);
        due("told", x.told(0), 0);
        due("none is let go", x.count(2), 0);
        due("events so far", x.events(0), 2);
        due("what comes is watched", x.event(2, 0), 2);
        due("and counted", x.events(0), 3);
        due("now it is let go", x.count(2), 1);
    }

    /** "else 4": kept ones and others, whether they are sure or not. */
    private static void someKeptSomeNot() {
        RunWatcher x = Due.with("NNNa");
        due("1 and 0", x.lost(0, 1), 4);
        states(x, 0, 0, 1);
        Due.read(x, "Na");
        x.event(0, 0);
        due("0, 2 and 3", x.lost(0, 1), 4);
        due("2 and 3", x.event(0, 0), 4);
        states(x, 0, 2, 3);
        due("told", x.told(0), 4);
        due("though all are sure, it is not let go", x.count(2), 0);
        due("2 and 3 still", x.event(1, 0), 4);
        due("its events count", x.events(0), 3);
        Due.read(x, "Ga");
        due("1 and 2", x.lost(0, 1), 4);
        states(x, 0, 0, 1);
        due("1 and 2 still", x.event(0, 0), 4);
        due("2 alone", x.event(1, 0), 2);
        Due.read(x, "Fa");
        x.event(1, 0);
        due("0 and 3", x.lost(0, 1), 4);
        due("0 and 3 still", x.event(2, 0), 4);
        due("3 alone", x.event(0, 0), 3);
        Due.read(x, "aUb");
        due("1, 0, 3 and 2", x.lost(0, 1), 4);
        Due.read(x, "b");
        due("1, 2 and 3", x.lost(0, 1), 4);
    }

    /** "A KEY is LET GO, when its VERDICT is 2 or 3: its EVENTS change nothing any more." */
    private static void letGoWhenSureAndKept() {
        RunWatcher x = Due.with("aUb");
        due("sure", x.event(1, 4), 3);
        stays(x, 4, 3, 2);
    }

    /** "A KEY is LET GO, when its VERDICT is 2 or 3": 2. */
    private static void letGoWhenSureAndNotKept() {
        RunWatcher x = Due.with("aUb");
        due("sure", x.event(2, 4), 2);
        stays(x, 4, 2, 3);
    }

    private static void stays(RunWatcher x, int key, int verdict, int state) {
        due("one is let go", x.count(2), 1);
        for (int event = 0; event < 4; event++) {
            due("event " + event + " changes nothing", x.event(event, key), verdict);
            due("it is not counted", x.events(key), 1);
            states(x, key, state);
        }
        due("told", x.told(key), verdict);
        due("one is let go still", x.count(2), 1);
    }

    /** Promise 17: "not those behind its being LET GO": the one at which it is let go is counted. */
    private static void letGoAtTheEventThatMakesItSure() {
        RunWatcher x = Due.with("NNa");
        events(x, 9, "bb");
        due("not yet", x.count(2), 0);
        due("two events", x.events(9), 2);
        due("the third makes it sure", x.event(0, 9), 3);
        due("three events", x.events(9), 3);
        due("let go", x.count(2), 1);
        x.event(0, 9);
        due("three events still", x.events(9), 3);
    }

    /** A key in several states is let go as soon as all are sure alike. */
    private static void letGoBehindLostOnes() {
        RunWatcher x = Due.with("Fa");
        due("lost", x.lost(0, 5), 4);
        states(x, 0, 0, 1, 2);
        due("none is let go", x.count(2), 0);
        due("an a is kept, whatever was lost", x.event(0, 0), 3);
        states(x, 0, 1);
        due("one is let go", x.count(2), 1);
        due("its event was counted", x.events(0), 1);
        x.event(1, 0);
        due("no other is", x.events(0), 1);
    }

    /** A rule that all runs keep leaves nothing to watch: its verdict is 3 from the first. */
    private static void letGoFromTheFirst() {
        RunWatcher x = Due.with("a/!a");
        due("all are let go", x.count(2), 16);
        due("told", x.told(7), 3);
        due("event", x.event(0, 7), 3);
        due("it is not counted", x.events(7), 0);
        due("lost", x.lost(7, 100), 3);
        due("anew", x.anew(7), 3);
        due("it is let go again", x.count(2), 16);
        Due.read(x, "!.");
        due("a rule that none keeps: not at first", x.count(2), 0);
        due("told", x.told(7), 1);
        due("behind one event", x.event(0, 7), 2);
        due("it is counted", x.events(7), 1);
        due("one is let go", x.count(2), 1);
    }

    /** Verdicts 0, 1 and 4 do not let a key go. */
    private static void notLetGoWhileNotSure() {
        RunWatcher x = Due.with("G(a>Fb)");
        due("0", x.event(0, 0), 0);
        due("1", x.event(1, 1), 1);
        x.event(0, 2);
        due("4", x.lost(2, 1), 4);
        due("none is let go", x.count(2), 0);
        due("0 can be left", x.event(1, 0), 1);
        due("1 can be left", x.event(0, 1), 0);
        due("4 can be left", x.event(1, 2), 1);
        for (int key = 0; key < 3; key++) {
            due("two events", x.events(key), 2);
        }
    }

    /** What is let go may lose events: its verdict stays, and where it is. */
    private static void lostOfAKeyLetGo() {
        RunWatcher x = Due.with("aUb");
        x.event(1, 0);
        x.event(3, 1);
        due("kept", x.lost(0, 100), 3);
        due("not kept", x.lost(1, 100), 2);
        states(x, 0, 2);
        states(x, 1, 3);
        due("n is 0", x.lost(0, 0), OUTSIDE);
        due("n is 101", x.lost(1, 101), OUTSIDE);
        due("two are let go", x.count(2), 2);
    }

    /** Promise 15: "How many STATES a KEY may be in." */
    private static void mayIsHowMany() {
        RunWatcher x = Due.with("(FGYYYYaUb)");
        due("one", x.may(0), 1);
        x.lost(0, 1);
        due("fewer than all", x.may(0) > 1 && x.may(0) < 50 ? 1 : 0, 1);
        x.lost(0, 100);
        due("all that can be met again", x.may(0), 50);
        due("the last", x.state(0, 49), 49);
        due("none behind it", x.state(0, 50), NONE);
        x.anew(0);
        due("one again", x.may(0), 1);
        x.event(0, 0);
        due("one", x.may(0), 1);
    }

    /** Promise 16: "The i-th of these, the least first; NONE." */
    private static void stateIsTheIthTheLeastFirst() {
        RunWatcher x = Due.with("NNNNNNNNa");
        events(x, 2, "cc");
        x.lost(2, 3);
        states(x, 2, 2, 3, 4, 5);
        due("i is -1", x.state(2, -1), NONE);
        due("i is 3", x.state(2, 3), 5);
        due("i is 4", x.state(2, 4), NONE);
        for (int far : FAR_OFF) {
            due("i is " + far, x.state(2, far), NONE);
        }
        Due.read(x, ".");
        due("of one", x.state(0, 0), 0);
        due("of one", x.state(0, 1), NONE);
        due("of one", x.state(0, -1), NONE);
    }

    /** Promise 17: "(told ones alone; not those behind its being LET GO)". */
    private static void eventsAreToldOnesAlone() {
        RunWatcher x = Due.with("aUb");
        due("none", x.events(0), 0);
        x.lost(0, 100);
        due("lost ones are not told", x.events(0), 0);
        x.event(0, 1);
        due("one", x.events(1), 1);
        x.lost(1, 1);
        due("one still", x.events(1), 1);
        x.event(0, 1);
        due("two", x.events(1), 2);
        x.event(-1, 1);
        x.event(4, 1);
        due("what is refused does not count", x.events(1), 2);
        x.event(1, 2);
        x.event(1, 2);
        due("not behind its being let go", x.events(2), 1);
        x.anew(1);
        due("anew", x.events(1), 0);
    }

    /** As many events as an object's calls can tell are counted. */
    private static void eventsOfManyCalls() {
        RunWatcher x = new RunWatcher();
        x.feed(Due.words("G(a>Fb)")[0]);
        x.read();
        for (int i = 0; i < 508; i++) {
            x.event(0, 15);
        }
        due("508 events", x.events(15), 508);
        due("the 512th call", x.told(15), 0);
    }

    /** Promise 18: "A KEY is without EVENTS again: its VERDICT ahead." */
    private static void anewTellsTheVerdictAhead() {
        RunWatcher x = Due.with("aUb");
        due("ahead of any event", x.anew(0), 1);
        x.event(0, 0);
        due("0", x.anew(0), 0);
        x.event(1, 0);
        due("3", x.anew(0), 3);
        x.event(2, 0);
        due("2", x.anew(0), 2);
        x.lost(0, 1);
        due("4", x.anew(0), 4);
        due("1", x.anew(0), 1);
        states(x, 0, 0);
        due("events", x.events(0), 0);
        due("told", x.told(0), 1);
        x.event(0, 0);
        x.event(0, 1);
        x.anew(0);
        due("another key stays", x.events(1), 1);
        states(x, 1, 1);
    }

    /** Promise 18 of a key that is let go: it is watched again. */
    private static void anewOfAKeyLetGo() {
        RunWatcher x = Due.with("aUb");
        x.event(1, 0);
        x.event(3, 1);
        due("two are let go", x.count(2), 2);
        due("anew", x.anew(0), 3);
        due("one is let go", x.count(2), 1);
        due("its events come", x.event(0, 0), 0);
        due("and count", x.events(0), 1);
        due("anew", x.anew(1), 2);
        due("none is let go", x.count(2), 0);
        due("its events come", x.event(1, 1), 3);
        due("and count", x.events(1), 1);
    }

    /** "UNKNOWN (there is no such .. KEY)", of promises 12 to 18. */
    private static void keysThatAreNot() {
        for (int key : FAR_OFF) {
            if (key >= 0 && key < 16) {
                continue;
            }
            RunWatcher x = Due.with("aUb");
            due("event(0, " + key + ")", x.event(0, key), UNKNOWN);
            due("lost(" + key + ", 1)", x.lost(key, 1), UNKNOWN);
            due("told(" + key + ")", x.told(key), UNKNOWN);
            due("may(" + key + ")", x.may(key), UNKNOWN);
            due("state(" + key + ", 0)", x.state(key, 0), UNKNOWN);
            due("events(" + key + ")", x.events(key), UNKNOWN);
            due("anew(" + key + ")", x.anew(key), UNKNOWN);
        }
    }

    /** "UNKNOWN (there is no such .. EVENT ..)", of promise 12. */
    private static void eventsThatAreNot() {
        RunWatcher x = Due.with("aUb");
        for (int event : FAR_OFF) {
            due("event(" + event + ", 0)", x.event(event, 0), UNKNOWN);
            due("event(" + event + ", 16)", x.event(event, 16), UNKNOWN);
        }
        due("event(4, 0)", x.event(4, 0), UNKNOWN);
        due("none came", x.events(0), 0);
        states(x, 0, 0);
        x.event(1, 1);
        due("event(4, 1) of a key let go", x.event(4, 1), UNKNOWN);
    }

    /** "STATE: there is no RULE", of promises 12 to 18: also behind a read() that was refused. */
    private static void withoutRule() {
        RunWatcher fresh = new RunWatcher();
        RunWatcher faulty = new RunWatcher();
        Due.read(faulty, "YNa");
        RunWatcher full = new RunWatcher();
        Due.read(full, "FGYYYYYa");
        for (RunWatcher x : new RunWatcher[] {fresh, faulty, full}) {
            due("event(0, 0)", x.event(0, 0), STATE);
            due("lost(0, 1)", x.lost(0, 1), STATE);
            due("told(0)", x.told(0), STATE);
            due("may(0)", x.may(0), STATE);
            due("state(0, 0)", x.state(0, 0), STATE);
            due("events(0)", x.events(0), STATE);
            due("anew(0)", x.anew(0), STATE);
            due("none is let go", x.count(2), 0);
        }
    }

    /** "REFUSALS, of several the first that a call names": STATE; UNKNOWN; OUTSIDE. */
    private static void firstRefusal() {
        RunWatcher x = new RunWatcher();
        due("event: STATE ahead of UNKNOWN", x.event(4, 0), STATE);
        due("event: STATE ahead of UNKNOWN", x.event(0, 16), STATE);
        due("lost: STATE ahead of both", x.lost(16, 0), STATE);
        due("lost: STATE ahead of OUTSIDE", x.lost(0, 101), STATE);
        due("told: STATE ahead of UNKNOWN", x.told(16), STATE);
        due("may: STATE ahead of UNKNOWN", x.may(-1), STATE);
        due("state: STATE ahead of UNKNOWN", x.state(-1, 0), STATE);
        due("state: STATE ahead of NONE", x.state(0, 1), STATE);
        due("events: STATE ahead of UNKNOWN", x.events(16), STATE);
        due("anew: STATE ahead of UNKNOWN", x.anew(-1), STATE);
        Due.read(x, "aUb");
        due("lost: UNKNOWN ahead of OUTSIDE", x.lost(16, 0), UNKNOWN);
        due("lost: UNKNOWN ahead of OUTSIDE", x.lost(-1, 101), UNKNOWN);
        due("state: UNKNOWN ahead of NONE", x.state(16, 9), UNKNOWN);
        due("event: neither is there", x.event(4, 16), UNKNOWN);
    }

    /** Promises 12 to 16 in each state of the greatest watchers, also those behind 32 others. */
    private static void eachStateOfMany() {
        for (String rule : new String[] {"(FGYYYYaUb)", "F(a&NNNNNb)", "G(aUYYYYYa)"}) {
            RunWatcher x = Due.with(rule);
            int[][] leads = new int[x.count(0)][4];
            String[] runs = new String[leads.length];
            runs[0] = "";
            for (int state = 0; state < leads.length; state++) {
                for (int event = 0; event < 4; event++) {
                    int to = x.leads(state, event);
                    leads[state][event] = to;
                    runs[to] = runs[to] == null ? runs[state] + (char) ('a' + event) : runs[to];
                }
            }
            for (int state = 0; state < leads.length; state++) {
                oneState(rule, leads, runs[state], state);
            }
        }
    }

    private static void oneState(String rule, int[][] leads, String run, int state) {
        RunWatcher x = Due.with(rule);
        events(x, 8, run);
        states(x, 8, state);
        due(rule + " told behind " + run, x.told(8), x.verdict(state));
        for (int event = 0; event < 4; event++) {
            Set<Integer> may = new TreeSet<>(Set.of(state));
            for (int to : leads[state]) {
                may.add(to);
            }
            events(x, event, run);
            x.lost(event, 1);
            sameStates(x, event, may);
            Set<Integer> then = new TreeSet<>();
            for (int each : may) {
                then.add(leads[each][event]);
            }
            boolean sure = x.told(event) > 1 && x.told(event) < 4;
            x.event(event, event);
            sameStates(x, event, sure ? may : then);
        }
    }

    private static void sameStates(RunWatcher x, int key, Set<Integer> want) {
        states(x, key, want.stream().mapToInt(Integer::intValue).toArray());
    }
}
