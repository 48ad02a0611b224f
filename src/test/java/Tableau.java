import java.util.ArrayList;
import java.util.Arrays;
import java.util.BitSet;
import java.util.HashMap;
import java.util.List;
import java.util.Map;

/**
 * The least machine of a rule, made in another way than the program's: all ways in which the nodes
 * may hold at a place, which of them may follow which, the sets of them that runs leave, and those
 * sets put together as long as nothing tells them apart.
 */
final class Tableau {
    private static final int MOST_SETS = 4000;

    /** Too many sets to be made here: nothing is known of the rule. */
    boolean tooMany = false;
    int size = 0;
    int[][] leads = new int[0][];
    boolean[] kept = new boolean[0];
    int[] verdicts = new int[0];

    private final List<Sentence.Node> nodes;
    private final List<int[]> ways = new ArrayList<>();
    private final List<BitSet> follow = new ArrayList<>();
    private final BitSet last = new BitSet();
    private final BitSet first = new BitSet();

    Tableau(Sentence sentence) {
        nodes = sentence.nodes();
        makeWays();
        List<BitSet> sets = new ArrayList<>();
        List<int[]> steps = new ArrayList<>();
        walk(sets, steps);
        if (!tooMany) {
            boolean[] told = new boolean[sets.size()];
            for (int i = 0; i < told.length; i++) {
                told[i] = i == 0 || sets.get(i).intersects(last);
            }
            lessen(steps, told);
        }
    }

    private boolean value(int[] way, Sentence.Node node) {
        return (way[0] >> nodes.indexOf(node) & 1) == 1;
    }

    private void makeWays() {
        int temporal = 0;
        for (Sentence.Node node : nodes) {
            temporal += Sentence.in(node.sign, "NWGFUYHOS") ? 1 : 0;
        }
        for (int event = 0; event < 4; event++) {
            for (int guess = 0; guess < 1 << temporal; guess++) {
                ways.add(new int[] {valuesOf(event, guess), event});
            }
        }
        for (int i = 0; i < ways.size(); i++) {
            BitSet behind = new BitSet();
            for (int j = 0; j < ways.size(); j++) {
                if (mayFollow(ways.get(i), ways.get(j))) {
                    behind.set(j);
                }
            }
            follow.add(behind);
            last.set(i, mayFollow(ways.get(i), null));
            first.set(i, mayFollow(null, ways.get(i)) && value(ways.get(i), nodes.get(nodes.size() - 1)));
        }
    }

    private int valuesOf(int event, int guess) {
        int[] way = {0, event};
        int guessed = 0;
        for (int i = 0; i < nodes.size(); i++) {
            Sentence.Node node = nodes.get(i);
            boolean holds;
            switch (node.sign) {
                case '.': holds = true; break;
                case '!': holds = !value(way, node.first); break;
                case '&': holds = value(way, node.first) & value(way, node.second); break;
                case '/': holds = value(way, node.first) | value(way, node.second); break;
                case '>': holds = !value(way, node.first) | value(way, node.second); break;
                case 'a': case 'b': case 'c': case 'd': holds = node.sign - 'a' == event; break;
                default: holds = (guess >> guessed++ & 1) == 1;
            }
            way[0] |= holds ? 1 << i : 0;
        }
        return way[0];
    }

    /** Whether a way may stand at the place ahead of another; null: there is no such place. */
    private boolean mayFollow(int[] here, int[] next) {
        for (Sentence.Node node : nodes) {
            char sign = node.sign;
            if (Sentence.in(sign, "NWGFU") && here != null && value(here, node) != told(node, here, next)) {
                return false;
            }
            if (Sentence.in(sign, "YHOS") && next != null && value(next, node) != told(node, next, here)) {
                return false;
            }
        }
        return true;
    }

    private boolean told(Sentence.Node node, int[] at, int[] beside) {
        switch (node.sign) {
            case 'N': case 'Y': return beside != null && value(beside, node.first);
            case 'W': return beside == null || value(beside, node.first);
            case 'G': case 'H': return value(at, node.first) && (beside == null || value(beside, node));
            case 'F': case 'O': return value(at, node.first) || beside != null && value(beside, node);
            default: return value(at, node.second)
                || value(at, node.first) && beside != null && value(beside, node);
        }
    }

    private void walk(List<BitSet> sets, List<int[]> steps) {
        Map<BitSet, Integer> numbers = new HashMap<>();
        sets.add(new BitSet());
        for (int i = 0; i < sets.size() && !tooMany; i++) {
            int[] step = new int[4];
            for (int event = 0; event < 4; event++) {
                BitSet to = new BitSet();
                if (i == 0) {
                    to.or(first);
                } else {
                    sets.get(i).stream().forEach(way -> to.or(follow.get(way)));
                }
                int wanted = event;
                to.stream().filter(way -> ways.get(way)[1] != wanted).forEach(to::clear);
                Integer number = numbers.get(to);
                if (number == null) {
                    number = sets.size();
                    numbers.put(to, number);
                    sets.add(to);
                }
                step[event] = number;
            }
            steps.add(step);
            tooMany = sets.size() > MOST_SETS;
        }
    }

    private void lessen(List<int[]> steps, boolean[] told) {
        int many = steps.size();
        int[] group = new int[many];
        for (int i = 0; i < many; i++) {
            group[i] = told[i] ? 1 : 0;
        }
        int groups = 0;
        for (boolean more = true; more;) {
            Map<List<Integer>, Integer> marks = new HashMap<>();
            int[] finer = new int[many];
            for (int i = 0; i < many; i++) {
                int[] s = steps.get(i);
                List<Integer> mark = Arrays.asList(group[i], group[s[0]], group[s[1]], group[s[2]], group[s[3]]);
                Integer known = marks.putIfAbsent(mark, marks.size());
                finer[i] = known == null ? marks.size() - 1 : known;
            }
            more = marks.size() != groups;
            groups = marks.size();
            group = finer;
        }
        number(steps, told, group, groups);
    }

    private void number(List<int[]> steps, boolean[] told, int[] group, int groups) {
        int[] state = new int[groups];
        Arrays.fill(state, -1);
        List<Integer> pairs = new ArrayList<>(List.of(0));
        state[group[0]] = 0;
        leads = new int[groups][4];
        kept = new boolean[groups];
        for (int i = 0; i < pairs.size(); i++) {
            kept[i] = told[pairs.get(i)];
            for (int event = 0; event < 4; event++) {
                int to = steps.get(pairs.get(i))[event];
                if (state[group[to]] < 0) {
                    state[group[to]] = pairs.size();
                    pairs.add(to);
                }
                leads[i][event] = state[group[to]];
            }
        }
        size = groups;
        verdicts = new int[size];
        for (int i = 0; i < size; i++) {
            boolean[] met = new boolean[size];
            boolean same = sameBehind(i, kept[i], met);
            verdicts[i] = (same ? 2 : 0) + (kept[i] ? 1 : 0);
        }
    }

    private boolean sameBehind(int state, boolean told, boolean[] met) {
        if (met[state]) {
            return true;
        }
        met[state] = true;
        boolean same = kept[state] == told;
        for (int to : leads[state]) {
            same &= sameBehind(to, told, met);
        }
        return same;
    }
}
