import java.util.Random;

/** All promises: runs of calls made by chance, each answer held against the plain reference. */
public final class CallsTest {
    private static final int RUNS = 260;
    private static final int CALLS = 512;
    private static final String[] GOOD = {
        "G(a>Fb)", "aUb", "F(a&Nb)", "G(d>(!c S a))", "!G!a", ".", "!.", "a", "Fa", "Ga", "NNNa", "WWa",
        "G(a>NNb)", "G(b>Ya)", "H a", "F(d&Oa)", "aUbUc", "a/b&c", "a>b>c", "(aUb)/(cUd)", "G(a>!Ob)",
        "F(YYYa&NWc)", "cUNWNNNWb", "FGYYYYYa", "GFYYa", "F.", "G!a", "N.", "W!.", "!a", "!.&a", "a&Fb", "a&Wb",
        "FGYYYYcUa", "FYYYYYcUa"
    };

    private final RunWatcher x = new RunWatcher();
    private final Reference y = new Reference();
    private final Random chance;
    private final Rules rules;
    private final int number;

    private CallsTest(int number) {
        this.number = number;
        chance = new Random(1000 + number);
        rules = new Rules(2000 + number);
    }

    public static void main(String[] args) {
        for (int i = 0; i < RUNS; i++) {
            new CallsTest(i).go();
        }
        Due.end();
    }

    private void due(String call, long got, long want) {
        Due.due("run " + number + ": " + call, got, want);
    }

    private void go() {
        int calls = 0;
        while (calls < CALLS) {
            int kind = chance.nextInt(40);
            if (kind == 0) {
                calls += readSome();
            } else if (kind == 1) {
                calls += odd();
            } else {
                calls++;
                one(kind % 19);
            }
        }
    }

    private String someText() {
        int kind = chance.nextInt(10);
        if (kind < 5) {
            return GOOD[chance.nextInt(GOOD.length)];
        }
        String text = rules.sound(1 + chance.nextInt(6));
        return kind < 8 ? text : rules.bruised(text);
    }

    private int readSome() {
        String text = someText();
        due("cut()", x.cut(), y.cut());
        long[] words = Due.words(text);
        for (long word : words) {
            due("feed(" + word + ")", x.feed(word), y.feed(word));
        }
        due("read() of '" + text + "'", x.read(), y.read());
        return words.length + 2;
    }

    private int odd() {
        long word = chance.nextLong() & (chance.nextBoolean() ? -1L : 0xffffffL);
        switch (chance.nextInt(4)) {
            case 0:
                due("feed(" + word + ")", x.feed(word), y.feed(word));
                break;
            case 1:
                due("read()", x.read(), y.read());
                break;
            case 2:
                due("fault()", x.fault(), y.fault());
                break;
            default:
                due("cut()", x.cut(), y.cut());
        }
        return 1;
    }

    /** Mostly a number that is one of so many, at times one that lies outside. */
    private int near(int many) {
        switch (chance.nextInt(24)) {
            case 0:
                return -1;
            case 1:
                return many;
            case 2:
                return chance.nextBoolean() ? Integer.MIN_VALUE : Integer.MAX_VALUE;
            case 3:
                return chance.nextInt();
            default:
                return chance.nextInt(Math.max(1, many));
        }
    }

    private void one(int kind) {
        int state = near(y.count(0));
        int event = near(4);
        int verdict = near(4);
        int key = near(chance.nextInt(3) > 0 ? 2 : 16);
        int n = near(26);
        int i = near(Math.max(1, Math.min(n, 26)));
        int many = chance.nextBoolean() ? near(4) : near(101);
        switch (kind) {
            case 0: due("leads(" + state + ", " + event + ")", x.leads(state, event), y.leads(state, event)); break;
            case 1: due("verdict(" + state + ")", x.verdict(state), y.verdict(state)); break;
            case 2: due("far(" + state + ", " + verdict + ")", x.far(state, verdict), y.far(state, verdict)); break;
            case 3: due("toward(" + state + ", " + verdict + ")", x.toward(state, verdict), y.toward(state, verdict));
                break;
            case 4: due("runs(" + state + ", " + n + ")", x.runs(state, n), y.runs(state, n)); break;
            case 5: due("run(" + state + ", " + n + ", " + i + ")", x.run(state, n, i), y.run(state, n, i)); break;
            case 6: case 7: case 8:
                due("event(" + event + ", " + key + ")", x.event(event, key), y.event(event, key)); break;
            case 9: due("lost(" + key + ", " + many + ")", x.lost(key, many), y.lost(key, many)); break;
            case 10: due("told(" + key + ")", x.told(key), y.told(key)); break;
            case 11: due("may(" + key + ")", x.may(key), y.may(key)); break;
            case 12: due("state(" + key + ", " + many + ")", x.state(key, many), y.state(key, many)); break;
            case 13: due("events(" + key + ")", x.events(key), y.events(key)); break;
            case 14: due("anew(" + key + ")", x.anew(key), y.anew(key)); break;
            case 15:
                if (chance.nextInt(4) == 0 || y.count(4) == 0) {
                    due("keep()", x.keep(), y.keep());
                }
                break;
            case 16: due("against()", x.against(), y.against()); break;
            case 17: due("apart()", x.apart(), y.apart()); break;
            default: int what = near(5); due("count(" + what + ")", x.count(what), y.count(what));
        }
    }
}
