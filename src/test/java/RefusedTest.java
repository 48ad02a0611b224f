import java.util.ArrayList;
import java.util.List;

/**
 * "What is refused changes nothing": each refused call stands in a run of calls, and all that the
 * object tells behind it is what it tells without it. Then calls that only tell, which change
 * nothing either, and the last of the 512 calls that an object is used for.
 */
public final class RefusedTest {
    private static final int UNKNOWN = -1, OUTSIDE = -2, STATE = -3, FULL = -4;
    private static final int MIN = Integer.MIN_VALUE, MAX = Integer.MAX_VALUE;

    private interface Call {
        long on(RunWatcher x);
    }

    private interface Made {
        RunWatcher make();
    }

    private record Refused(String name, long answer, Call call) {
    }

    public static void main(String[] args) {
        for (Refused refused : withRule()) {
            changesNothing(RefusedTest::inUse, refused);
            changesNothing(RefusedTest::keptByAll, refused);
        }
        for (Refused refused : withoutRule()) {
            changesNothing(RefusedTest::fresh, refused);
            changesNothing(RefusedTest::behindAFault, refused);
        }
        changesNothing(RefusedTest::inUseNothingKept, new Refused("against()", STATE, RunWatcher::against));
        changesNothing(RefusedTest::inUseNothingKept, new Refused("apart()", STATE, RunWatcher::apart));
        tellingChangesNothing();
        lastCalls();
        Due.end();
    }

    private static RunWatcher inUse() {
        RunWatcher x = Due.with("G(a>Fb)");
        x.keep();
        return inUse(x);
    }

    private static RunWatcher inUseNothingKept() {
        return inUse(new RunWatcher());
    }

    /** A rule, keys in all states, a fault of kind 2, and 57 bytes on the tape. */
    private static RunWatcher inUse(RunWatcher x) {
        Due.read(x, "aUb");
        x.event(0, 0);
        x.event(1, 1);
        x.event(2, 2);
        x.lost(3, 1);
        x.event(0, 3);
        x.event(0, 15);
        x.event(0, 15);
        Due.feed(x, "YNa");
        x.read();
        x.cut();
        Due.feed(x, "d&Nc" + " ".repeat(53));
        return x;
    }

    private static RunWatcher keptByAll() {
        RunWatcher x = Due.with("Fa");
        x.keep();
        Due.read(x, ".");
        Due.feed(x, "Gb" + " ".repeat(55));
        return x;
    }

    private static RunWatcher fresh() {
        RunWatcher x = new RunWatcher();
        Due.feed(x, "aUb");
        return x;
    }

    private static RunWatcher behindAFault() {
        RunWatcher x = new RunWatcher();
        Due.read(x, "aU)");
        x.cut();
        Due.feed(x, "c");
        return x;
    }

    private static void changesNothing(Made made, Refused refused) {
        RunWatcher without = made.make();
        RunWatcher with = made.make();
        Due.due(refused.name, refused.call.on(with), refused.answer);
        same("behind " + refused.name, with, without);
        RunWatcher twice = made.make();
        refused.call.on(twice);
        Due.due(refused.name + " again", refused.call.on(twice), refused.answer);
    }

    private static void same(String where, RunWatcher one, RunWatcher other) {
        List<Long> got = all(one);
        List<Long> want = all(other);
        Due.due(where + " as much is told", got.size(), want.size());
        for (int i = 0; i < Math.min(got.size(), want.size()); i++) {
            Due.due(where + " number " + i + " of all that is told", got.get(i), want.get(i));
        }
    }

    /** All that an object tells: first what calls tell that change nothing, then the tape's bytes. */
    private static List<Long> all(RunWatcher x) {
        List<Long> told = new ArrayList<>();
        counts(x, told);
        for (int state = 0; state < x.count(0) && state < 5; state++) {
            ofState(x, state, told);
        }
        for (int key = 0; key < 16; key++) {
            ofKey(x, key, told);
        }
        told.add((long) x.feed(0));
        told.add((long) x.read());
        told.add((long) x.fault());
        told.add((long) x.count(0));
        told.add((long) x.against());
        for (int state = 0; state < x.count(0) && state < 5; state++) {
            ofState(x, state, told);
        }
        return told;
    }

    private static void counts(RunWatcher x, List<Long> told) {
        for (int what = 0; what < 5; what++) {
            told.add((long) x.count(what));
        }
        told.add((long) x.fault());
        told.add((long) x.against());
        told.add((long) x.apart());
    }

    private static void ofState(RunWatcher x, int state, List<Long> told) {
        for (int i = 0; i < 4; i++) {
            told.add((long) x.leads(state, i));
            told.add((long) x.far(state, i));
            told.add((long) x.toward(state, i));
            told.add((long) x.run(state, 4, i));
        }
        told.add((long) x.verdict(state));
        told.add(x.runs(state, 25));
    }

    private static void ofKey(RunWatcher x, int key, List<Long> told) {
        told.add((long) x.told(key));
        told.add((long) x.events(key));
        int may = x.may(key);
        told.add((long) may);
        for (int i = 0; i <= may; i++) {
            told.add((long) x.state(key, i));
        }
    }

    private static void add(List<Refused> all, String name, long answer, Call call) {
        all.add(new Refused(name, answer, call));
    }

    private static List<Refused> withRule() {
        List<Refused> all = new ArrayList<>();
        add(all, "feed of 8", FULL, x -> x.feed(0x6161616161616161L));
        add(all, "feed of 4", FULL, x -> x.feed(0x61616161L));
        add(all, "feed of -1", FULL, x -> x.feed(-1L));
        for (int far : new int[] {MIN, -(1 << 30), -1, 16, 64, 1 << 30, MAX}) {
            add(all, "leads(" + far + ", 0)", UNKNOWN, x -> x.leads(far, 0));
            add(all, "leads(0, " + far + ")", UNKNOWN, x -> x.leads(0, far));
            add(all, "verdict(" + far + ")", UNKNOWN, x -> x.verdict(far));
            add(all, "far(" + far + ", 4)", UNKNOWN, x -> x.far(far, 4));
            add(all, "far(0, " + far + ")", OUTSIDE, x -> x.far(0, far));
            add(all, "toward(" + far + ", 4)", UNKNOWN, x -> x.toward(far, 4));
            add(all, "toward(0, " + far + ")", OUTSIDE, x -> x.toward(0, far));
            add(all, "runs(" + far + ", 26)", UNKNOWN, x -> x.runs(far, 26));
            add(all, "run(" + far + ", 26, 0)", UNKNOWN, x -> x.run(far, 26, 0));
            add(all, "event(0, " + far + ")", UNKNOWN, x -> x.event(0, far));
            add(all, "event(" + far + ", 0)", UNKNOWN, x -> x.event(far, 0));
            add(all, "event(" + far + ", 15)", UNKNOWN, x -> x.event(far, 15));
            add(all, "lost(" + far + ", 0)", UNKNOWN, x -> x.lost(far, 0));
            add(all, "lost(" + far + ", 1)", UNKNOWN, x -> x.lost(far, 1));
            add(all, "told(" + far + ")", UNKNOWN, x -> x.told(far));
            add(all, "may(" + far + ")", UNKNOWN, x -> x.may(far));
            add(all, "state(" + far + ", 0)", UNKNOWN, x -> x.state(far, 0));
            add(all, "events(" + far + ")", UNKNOWN, x -> x.events(far));
            add(all, "anew(" + far + ")", UNKNOWN, x -> x.anew(far));
            add(all, "count(" + far + ")", OUTSIDE, x -> x.count(far));
        }
        for (int far : new int[] {MIN, -1, 26, 1 << 30, MAX}) {
            add(all, "runs(0, " + far + ")", OUTSIDE, x -> x.runs(0, far));
            add(all, "run(0, " + far + ", 0)", OUTSIDE, x -> x.run(0, far, 0));
        }
        for (int far : new int[] {MIN, -1, 0, 101, 1 << 30, MAX}) {
            add(all, "lost(0, " + far + ")", OUTSIDE, x -> x.lost(0, far));
            add(all, "lost(15, " + far + ")", OUTSIDE, x -> x.lost(15, far));
        }
        add(all, "leads(5, 0)", UNKNOWN, x -> x.leads(5, 0));
        add(all, "leads(0, 4)", UNKNOWN, x -> x.leads(0, 4));
        add(all, "far(0, 4)", OUTSIDE, x -> x.far(0, 4));
        add(all, "toward(0, 4)", OUTSIDE, x -> x.toward(0, 4));
        add(all, "event(4, 3)", UNKNOWN, x -> x.event(4, 3));
        add(all, "count(5)", OUTSIDE, x -> x.count(5));
        return all;
    }

    private static List<Refused> withoutRule() {
        List<Refused> all = new ArrayList<>();
        for (int n : new int[] {MIN, -1, 0, 1, 4, 16, 26, 101, MAX}) {
            add(all, "leads(" + n + ", 0)", STATE, x -> x.leads(n, 0));
            add(all, "leads(0, " + n + ")", STATE, x -> x.leads(0, n));
            add(all, "verdict(" + n + ")", STATE, x -> x.verdict(n));
            add(all, "far(" + n + ", 0)", STATE, x -> x.far(n, 0));
            add(all, "far(0, " + n + ")", STATE, x -> x.far(0, n));
            add(all, "toward(" + n + ", 0)", STATE, x -> x.toward(n, 0));
            add(all, "toward(0, " + n + ")", STATE, x -> x.toward(0, n));
            add(all, "runs(" + n + ", 0)", STATE, x -> x.runs(n, 0));
            add(all, "runs(0, " + n + ")", STATE, x -> x.runs(0, n));
            add(all, "run(" + n + ", 0, 0)", STATE, x -> x.run(n, 0, 0));
            add(all, "run(0, " + n + ", 0)", STATE, x -> x.run(0, n, 0));
            add(all, "run(0, 1, " + n + ")", STATE, x -> x.run(0, 1, n));
            add(all, "event(0, " + n + ")", STATE, x -> x.event(0, n));
            add(all, "event(" + n + ", 0)", STATE, x -> x.event(n, 0));
            add(all, "lost(" + n + ", 1)", STATE, x -> x.lost(n, 1));
            add(all, "lost(0, " + n + ")", STATE, x -> x.lost(0, n));
            add(all, "told(" + n + ")", STATE, x -> x.told(n));
            add(all, "may(" + n + ")", STATE, x -> x.may(n));
            add(all, "state(" + n + ", 0)", STATE, x -> x.state(n, 0));
            add(all, "state(0, " + n + ")", STATE, x -> x.state(0, n));
            add(all, "events(" + n + ")", STATE, x -> x.events(n));
            add(all, "anew(" + n + ")", STATE, x -> x.anew(n));
        }
        add(all, "keep()", STATE, RunWatcher::keep);
        add(all, "against()", STATE, RunWatcher::against);
        add(all, "apart()", STATE, RunWatcher::apart);
        add(all, "count(5)", OUTSIDE, x -> x.count(5));
        add(all, "count(-1)", OUTSIDE, x -> x.count(-1));
        return all;
    }

    /** Two objects of which one was asked all along tell the same. */
    private static void tellingChangesNothing() {
        RunWatcher asked = inUse();
        List<Long> nothing = new ArrayList<>();
        counts(asked, nothing);
        for (int state = 0; state < 4; state++) {
            ofState(asked, state, nothing);
        }
        for (int key = 0; key < 4; key++) {
            ofKey(asked, key, nothing);
        }
        asked.feed(0);
        asked.feed(0x6161616161616100L);
        same("behind what only tells", asked, inUse());
    }

    /** "An object is used for at most 512 calls": the 512th is as told, whichever it is. */
    private static void lastCalls() {
        List<Refused> last = new ArrayList<>();
        add(last, "feed", 8, x -> x.feed(-1L));
        add(last, "read", -100, RunWatcher::read);
        add(last, "fault", 0, RunWatcher::fault);
        add(last, "cut", 0, RunWatcher::cut);
        add(last, "leads", 1, x -> x.leads(0, 0));
        add(last, "verdict", 0, x -> x.verdict(1));
        add(last, "far", 1, x -> x.far(0, 0));
        add(last, "toward", 1, x -> x.toward(1, 1));
        add(last, "runs", 528, x -> x.runs(0, 5));
        add(last, "run", 1, x -> x.run(0, 5, 4));
        add(last, "event", 1, x -> x.event(1, 0));
        add(last, "lost", 4, x -> x.lost(0, 1));
        add(last, "told", 0, x -> x.told(0));
        add(last, "may", 1, x -> x.may(0));
        add(last, "state", 1, x -> x.state(0, 0));
        add(last, "events", 508, x -> x.events(0));
        add(last, "anew", 0, x -> x.anew(0));
        add(last, "keep", 2, RunWatcher::keep);
        add(last, "against", 1, RunWatcher::against);
        add(last, "apart", -9, RunWatcher::apart);
        add(last, "count", 2, x -> x.count(0));
        for (Refused call : last) {
            RunWatcher x = new RunWatcher();
            x.feed(Due.words("G(a>Fb)")[0]);
            x.read();
            x.keep();
            for (int i = 0; i < 508; i++) {
                x.event(0, 0);
            }
            Due.due("the 512th call: " + call.name, call.call.on(x), call.answer);
        }
    }
}
