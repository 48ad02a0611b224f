import java.util.ArrayList;
import java.util.HashSet;
import java.util.List;
import java.util.Random;
import java.util.Set;

/**
 * Promises 3, 4, 6, 7, 10: rules made by chance, read by the program, held against the document's
 * words on every short run, and against the least machine as the tableau makes it.
 */
public final class MachineTest {
    private static final int LONGEST = 5;

    public static void main(String[] args) {
        onEveryShortRun();
        againstTheTableau();
        faults();
        moreThanSixty();
        Due.end();
    }

    private static void onEveryShortRun() {
        Rules rules = new Rules(11);
        for (int i = 0; i < 1500; i++) {
            String text = rules.sound(2 + i % 8);
            text = i % 3 == 0 ? Rules.bare(text) : text;
            Sentence sentence = new Sentence(text);
            if (sentence.kind != 0) {
                continue;
            }
            RunWatcher x = Due.with(text);
            if (x.count(0) > 0) {
                long[] kept = new long[LONGEST + 1];
                walk(x, sentence, text, new int[0], 0, kept);
                for (int n = 0; n <= LONGEST; n++) {
                    Due.due(text + " runs(0, " + n + ")", x.runs(0, n), kept[n]);
                }
            }
        }
    }

    private static void walk(RunWatcher x, Sentence sentence, String text, int[] run, int state, long[] kept) {
        boolean keeps = sentence.isKeptBy(run);
        kept[run.length] += keeps ? 1 : 0;
        Due.due(text + " verdict behind " + java.util.Arrays.toString(run),
            x.verdict(state) & 1, keeps ? 1 : 0);
        for (int event = 0; event < 4 && run.length < LONGEST; event++) {
            int[] longer = java.util.Arrays.copyOf(run, run.length + 1);
            longer[run.length] = event;
            walk(x, sentence, text, longer, x.leads(state, event), kept);
        }
    }

    private static void againstTheTableau() {
        Rules rules = new Rules(12);
        List<String> texts = new ArrayList<>(List.of("F(YYYa&NWc)", "cUNWNNNWb", "G(YaUNWWa)", "FGYYYYa",
            "YYYYYYbSc", "(O(dSYb)Sd)Sa", "NNNNNNNNa", "WWWWWWWWa", "FYYYYYYYa", "F(a&NNNNNb)", "!(aUb)S!.",
            "G(a>NNNb)", "G(a>NNNNb)", "FGYYYYYa",
            "FGYYYYcUa", "!bUGYYYYd", "FYYYYYcUa", "FaUGYYYYd"));
        for (int i = 0; i < 900; i++) {
            texts.add(rules.sound(1 + i % 9));
        }
        int known = 0;
        for (String text : texts) {
            Sentence sentence = new Sentence(text);
            Tableau tableau = sentence.kind == 0 && few(sentence) ? new Tableau(sentence) : null;
            if (tableau != null && !tableau.tooMany) {
                known++;
                same(text, tableau);
            }
        }
        Due.due("the tableau knows enough of them", known > 700 ? 1 : 0, 1);
    }

    private static boolean few(Sentence sentence) {
        long temporal = sentence.nodes().stream().filter(node -> Sentence.in(node.sign, "NWGFUYHOS")).count();
        return temporal < 8;
    }

    private static void same(String text, Tableau tableau) {
        RunWatcher x = new RunWatcher();
        Due.due(text + " read()", Due.read(x, text), tableau.size > 60 ? RunWatcher.FULL : tableau.size);
        for (int state = 0; state < tableau.size && tableau.size <= 60; state++) {
            Due.due(text + " verdict(" + state + ")", x.verdict(state), tableau.verdicts[state]);
            for (int event = 0; event < 4; event++) {
                Due.due(text + " leads(" + state + ", " + event + ")", x.leads(state, event),
                    tableau.leads[state][event]);
            }
        }
    }

    private static void faults() {
        Rules rules = new Rules(13);
        Random chance = new Random(14);
        int[] kinds = new int[3];
        for (int i = 0; i < 20000; i++) {
            String text = rules.any(1 + chance.nextInt(10));
            text = i % 2 == 0 ? rules.bruised(text) : text;
            text = i % 5 == 0 ? Rules.bare(text) : text;
            Sentence sentence = new Sentence(text);
            kinds[sentence.kind]++;
            RunWatcher x = new RunWatcher();
            int answer = Due.read(x, text);
            if (sentence.kind != 0) {
                Due.due("'" + text + "' read()", answer, -100 - sentence.at);
            } else {
                Due.due("'" + text + "' read() finds no fault", answer > -100 ? 1 : 0, 1);
            }
            Due.due("'" + text + "' fault()", x.fault(), sentence.kind);
        }
        Due.due("faults of each kind came", Math.min(Math.min(kinds[0], kinds[1]), kinds[2]) > 2000 ? 1 : 0, 1);
    }

    /** What is answered with FULL has 64 states or more: so many rows of endings are told apart. */
    private static void moreThanSixty() {
        for (String text : List.of("FGYYYYYa", "FGYYYYY!d", "GFYYYYYb", "NGFYYYYYa", "FGYYYYYYa", "WFGYYYYYa",
            "GWFYYYYYa", "FNGYYYYYa", "FG!YYYYYa", "FGY!YYYYa", "FGYY!YYYa", "FGYYY!YYa", "FGYYYY!Ya", "FGYYYYY!a")) {
            Sentence sentence = new Sentence(text);
            Set<List<Boolean>> rows = new HashSet<>();
            for (int bits = 0; bits < 256; bits++) {
                List<Boolean> row = new ArrayList<>();
                for (int more = 0; more < 7; more++) {
                    row.add(sentence.isKeptBy(ofTwo(text.charAt(text.length() - 1) - 'a', bits, 8, more)));
                }
                rows.add(row);
            }
            Due.due(text + " has 64 states or more", rows.size() >= 64 ? 1 : 0, 1);
            Due.due(text + " read()", Due.read(new RunWatcher(), text), RunWatcher.FULL);
        }
    }

    /** A run with one event for each bit that is set, another for those that are not, and behind. */
    private static int[] ofTwo(int event, int bits, int many, int more) {
        int[] run = new int[many + more];
        for (int i = 0; i < run.length; i++) {
            run[i] = i < many && (bits >> i & 1) == 1 ? event : (event + 1) % 4;
        }
        return run;
    }
}
