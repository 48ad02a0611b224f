import java.util.ArrayList;
import java.util.HashMap;
import java.util.List;
import java.util.Map;
import java.util.TreeSet;

/** The whole of the document's face, told slowly and plainly; what random calls are held against. */
final class Reference {
    static final int UNKNOWN = -1, OUTSIDE = -2, STATE = -3, FULL = -4, NONE = -9;
    /** read() answers this for a rule of which the tableau cannot tell. */
    static final int NOT_KNOWN = 12345;

    private static final Map<String, Tableau> MADE = new HashMap<>();

    private String tape = "";
    private int fault = 0;
    private Tableau now = null;
    private Tableau held = null;
    private final List<TreeSet<Integer>> may = new ArrayList<>();
    private final int[] came = new int[16];

    Reference() {
        for (int key = 0; key < 16; key++) {
            may.add(new TreeSet<>(List.of(0)));
        }
    }

    int feed(long w) {
        StringBuilder more = new StringBuilder(tape);
        for (long rest = w; (rest & 255) != 0; rest >>>= 8) {
            more.append((char) (rest & 255));
        }
        if (more.length() > 60) {
            return FULL;
        }
        tape = more.toString();
        return tape.length();
    }

    int read() {
        Sentence sentence = new Sentence(tape);
        fault = sentence.kind;
        if (fault != 0) {
            return -100 - sentence.at;
        }
        Tableau made = MADE.computeIfAbsent(tape, text -> new Tableau(sentence));
        if (made.tooMany) {
            return NOT_KNOWN;
        }
        if (made.size > 60) {
            return FULL;
        }
        now = made;
        tape = "";
        for (int key = 0; key < 16; key++) {
            restart(key);
        }
        return now.size;
    }

    private void restart(int key) {
        may.set(key, new TreeSet<>(List.of(0)));
        came[key] = 0;
    }

    int fault() {
        return fault;
    }

    int cut() {
        int had = tape.length();
        tape = "";
        return had;
    }

    private boolean has(int state) {
        return state >= 0 && state < now.size;
    }

    int leads(int state, int event) {
        return now == null ? STATE : !has(state) || event < 0 || event > 3 ? UNKNOWN : now.leads[state][event];
    }

    private int verdictOf(int state) {
        return now.verdicts[state];
    }

    /** Where up to so many events lead. */
    private TreeSet<Integer> behind(int state, int most) {
        TreeSet<Integer> all = new TreeSet<>(List.of(state));
        int before = 0;
        for (int i = 0; i < most && all.size() > before; i++) {
            before = all.size();
            for (int each : new ArrayList<>(all)) {
                for (int to : now.leads[each]) {
                    all.add(to);
                }
            }
        }
        return all;
    }

    int verdict(int state) {
        return now == null ? STATE : !has(state) ? UNKNOWN : verdictOf(state);
    }

    int far(int state, int verdict) {
        if (now == null) {
            return STATE;
        }
        if (!has(state)) {
            return UNKNOWN;
        }
        if (verdict < 0 || verdict > 3) {
            return OUTSIDE;
        }
        for (int n = 0; n < now.size; n++) {
            for (int to : behind(state, n)) {
                if (verdictOf(to) == verdict) {
                    return n;
                }
            }
        }
        return NONE;
    }

    int toward(int state, int verdict) {
        int far = far(state, verdict);
        if (far == STATE || far == UNKNOWN || far == OUTSIDE) {
            return far;
        }
        for (int event = 0; event < 4 && far > 0; event++) {
            if (far(now.leads[state][event], verdict) == far - 1) {
                return event;
            }
        }
        return NONE;
    }

    long runs(int state, int n) {
        if (now == null) {
            return STATE;
        }
        if (!has(state)) {
            return UNKNOWN;
        }
        if (n < 0 || n > 25) {
            return OUTSIDE;
        }
        long[] at = new long[now.size];
        at[state] = 1;
        for (int i = 0; i < n; i++) {
            long[] then = new long[now.size];
            for (int each = 0; each < now.size; each++) {
                for (int to : now.leads[each]) {
                    then[to] += at[each];
                }
            }
            at = then;
        }
        long sum = 0;
        for (int each = 0; each < now.size; each++) {
            sum += now.kept[each] ? at[each] : 0;
        }
        return sum;
    }

    int run(int state, int n, int i) {
        long any = runs(state, n);
        if (any < 0) {
            return (int) any;
        }
        if (any == 0 || i < 0 || i >= n) {
            return NONE;
        }
        int here = state;
        for (int place = 0;; place++) {
            int event = 0;
            while (runs(now.leads[here][event], n - place - 1) == 0) {
                event++;
            }
            if (place == i) {
                return event;
            }
            here = now.leads[here][event];
        }
    }

    private int refusal(int key) {
        return now == null ? STATE : key < 0 || key > 15 ? UNKNOWN : 0;
    }

    private int verdictOfKey(int key) {
        TreeSet<Integer> told = new TreeSet<>();
        for (int state : may.get(key)) {
            told.add(verdictOf(state));
        }
        if (told.size() == 1) {
            return told.first();
        }
        return told.equals(new TreeSet<>(List.of(1, 3))) ? 1 : told.equals(new TreeSet<>(List.of(0, 2))) ? 0 : 4;
    }

    private boolean letGo(int key) {
        return verdictOfKey(key) == 2 || verdictOfKey(key) == 3;
    }

    int event(int event, int key) {
        if (now == null) {
            return STATE;
        }
        if (event < 0 || event > 3 || key < 0 || key > 15) {
            return UNKNOWN;
        }
        if (!letGo(key)) {
            TreeSet<Integer> to = new TreeSet<>();
            for (int state : may.get(key)) {
                to.add(now.leads[state][event]);
            }
            may.set(key, to);
            came[key]++;
        }
        return verdictOfKey(key);
    }

    int lost(int key, int n) {
        if (refusal(key) != 0) {
            return refusal(key);
        }
        if (n < 1 || n > 100) {
            return OUTSIDE;
        }
        TreeSet<Integer> to = new TreeSet<>();
        for (int state : may.get(key)) {
            to.addAll(behind(state, n));
        }
        may.set(key, to);
        return verdictOfKey(key);
    }

    int told(int key) {
        return refusal(key) != 0 ? refusal(key) : verdictOfKey(key);
    }

    int may(int key) {
        return refusal(key) != 0 ? refusal(key) : may.get(key).size();
    }

    int state(int key, int i) {
        if (refusal(key) != 0) {
            return refusal(key);
        }
        List<Integer> states = new ArrayList<>(may.get(key));
        return i >= 0 && i < states.size() ? states.get(i) : NONE;
    }

    int events(int key) {
        return refusal(key) != 0 ? refusal(key) : came[key];
    }

    int anew(int key) {
        if (refusal(key) != 0) {
            return refusal(key);
        }
        int was = verdictOfKey(key);
        restart(key);
        return was;
    }

    int keep() {
        if (now == null) {
            return STATE;
        }
        held = now;
        return held.size;
    }

    /** Where runs of n events lead both: state of this one times 100 and state of that one. */
    private TreeSet<Integer> together(int n) {
        TreeSet<Integer> pairs = new TreeSet<>(List.of(0));
        for (int i = 0; i < n; i++) {
            pairs = next(pairs);
        }
        return pairs;
    }

    private TreeSet<Integer> next(TreeSet<Integer> pairs) {
        TreeSet<Integer> to = new TreeSet<>();
        for (int pair : pairs) {
            for (int event = 0; event < 4; event++) {
                to.add(now.leads[pair / 100][event] * 100 + held.leads[pair % 100][event]);
            }
        }
        return to;
    }

    int against() {
        if (now == null || held == null) {
            return STATE;
        }
        TreeSet<Integer> met = together(1);
        for (int before = 0; before < met.size();) {
            before = met.size();
            met.addAll(next(met));
        }
        boolean same = true;
        boolean none = true;
        boolean thisInThat = true;
        boolean thatInThis = true;
        for (int pair : met) {
            boolean x = now.kept[pair / 100];
            boolean y = held.kept[pair % 100];
            same &= x == y;
            none &= !(x && y);
            thisInThat &= !x || y;
            thatInThis &= !y || x;
        }
        return same ? 1 : none ? 2 : thisInThat ? 3 : thatInThis ? 4 : 0;
    }

    int apart() {
        int relation = against();
        if (relation == STATE) {
            return STATE;
        }
        if (relation == 1) {
            return NONE;
        }
        for (int n = 1;; n++) {
            for (int pair : together(n)) {
                if (now.kept[pair / 100] != held.kept[pair % 100]) {
                    return n;
                }
            }
        }
    }

    int count(int what) {
        int many = 0;
        switch (what) {
            case 0:
                return now == null ? 0 : now.size;
            case 1:
                for (int state = 0; now != null && state < now.size; state++) {
                    many += verdictOf(state) >= 2 ? 1 : 0;
                }
                return many;
            case 2:
                for (int key = 0; now != null && key < 16; key++) {
                    many += letGo(key) ? 1 : 0;
                }
                return many;
            case 3:
                return tape.length();
            case 4:
                return held == null ? 0 : 1;
            default:
                return OUTSIDE;
        }
    }
}
