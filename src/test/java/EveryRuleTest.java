import java.util.ArrayList;
import java.util.List;

/**
 * Every rule of a few nodes, but for those that plainly say what another one says (its events
 * renamed, its parts of & and / changed about, a sign that does nothing): each one's watcher is held
 * against the least machine as the tableau makes it. With a number as argument it walks instead all
 * rules of so many nodes at most and tells how many states they have; with 9, the most that a rule
 * may have, some sixteen million rules, it takes some minutes and shows that none has 51 to 63.
 */
public final class EveryRuleTest {
    private static final int NODES = 5;
    private static final int RULES_OF_AN_OBJECT = 100;

    /** Where a part stands: under no sign that looks on or back, under some, within the past. */
    private static final int FIRST_PLACE = 0, ANY_PLACE = 1, PAST = 2;

    private final List<List<List<String>>> made = new ArrayList<>();
    private final long[] rulesOfStates = new long[62];
    private RunWatcher x = new RunWatcher();
    private int reads = 0;

    public static void main(String[] args) {
        if (args.length > 0) {
            new EveryRuleTest().countStates(Integer.parseInt(args[0]));
            return;
        }
        EveryRuleTest all = new EveryRuleTest();
        int many = 0;
        for (int nodes = 1; nodes <= NODES; nodes++) {
            for (String text : all.rules(nodes)) {
                many++;
                sameAsTableau(text);
            }
        }
        Due.due("rules", many, 2552);
        Due.end();
    }

    private static void sameAsTableau(String text) {
        Tableau tableau = new Tableau(new Sentence(text));
        RunWatcher x = new RunWatcher();
        Due.due(text + " read()", Due.read(x, text), tableau.size);
        for (int state = 0; state < tableau.size; state++) {
            Due.due(text + " verdict(" + state + ")", x.verdict(state), tableau.verdicts[state]);
            for (int event = 0; event < 4; event++) {
                Due.due(text + " leads(" + state + ", " + event + ")", x.leads(state, event),
                    tableau.leads[state][event]);
            }
        }
    }

    private void countStates(int most) {
        for (int nodes = 1; nodes <= most; nodes++) {
            for (String shape : shapes(nodes, FIRST_PLACE)) {
                withLetters(shape.toCharArray(), 0, 0, null);
            }
        }
        for (int states = 1; states <= 60; states++) {
            System.out.println(states + " states: " + rulesOfStates[states] + " rules");
        }
        System.out.println("FULL: " + rulesOfStates[61] + " rules");
    }

    private void count(String text) {
        reads++;
        x = reads % RULES_OF_AN_OBJECT == 0 ? new RunWatcher() : x;
        int states = Due.read(x, text);
        if (states < 0) {
            System.out.println(text + " " + states);
        }
        rulesOfStates[states > 0 ? states : 61]++;
    }

    private List<String> rules(int nodes) {
        List<String> rules = new ArrayList<>();
        for (String shape : shapes(nodes, FIRST_PLACE)) {
            withLetters(shape.toCharArray(), 0, 0, rules);
        }
        return rules;
    }

    /** Letters are put for each x in all ways in which none comes ahead of the one ahead of it. */
    private void withLetters(char[] text, int from, int used, List<String> rules) {
        int at = from;
        while (at < text.length && text[at] != 'x') {
            at++;
        }
        if (at == text.length) {
            if (rules == null) {
                count(new String(text));
            } else {
                rules.add(new String(text));
            }
            return;
        }
        for (int letter = 0; letter <= used && letter < 4; letter++) {
            text[at] = (char) ('a' + letter);
            withLetters(text, at + 1, Math.max(used, letter + 1), rules);
        }
        text[at] = 'x';
    }

    private List<String> shapes(int nodes, int place) {
        while (made.size() <= nodes) {
            made.add(new ArrayList<>(List.of(List.of(), List.of(), List.of())));
        }
        List<String> known = made.get(nodes).get(place);
        if (known.isEmpty()) {
            known = new ArrayList<>();
            addShapes(nodes, place, known);
            made.get(nodes).set(place, known);
        }
        return known;
    }

    private void addShapes(int nodes, int place, List<String> shapes) {
        if (nodes == 1) {
            shapes.addAll(List.of("x", "."));
            return;
        }
        for (char sign : "!NWGFYHO".toCharArray()) {
            boolean looksBack = "YHO".indexOf(sign) >= 0;
            if (sign == '!' || looksBack && place != FIRST_PLACE || !looksBack && place != PAST) {
                int within = sign == '!' ? place : looksBack ? PAST : ANY_PLACE;
                for (String part : shapes(nodes - 1, within)) {
                    if (saysMore(sign, part)) {
                        shapes.add(sign + part);
                    }
                }
            }
        }
        for (char sign : "&/>US".toCharArray()) {
            if (sign == 'U' && place != PAST || sign == 'S' && place != FIRST_PLACE || "&/>".indexOf(sign) >= 0) {
                int within = sign == 'U' ? ANY_PLACE : sign == 'S' ? PAST : place;
                addPairs(nodes, sign, within, shapes);
            }
        }
    }

    private void addPairs(int nodes, char sign, int within, List<String> shapes) {
        boolean alike = sign == '&' || sign == '/';
        for (int left = 1; left <= nodes - 2; left++) {
            int right = nodes - 1 - left;
            if (alike && left > right) {
                continue;
            }
            for (String one : shapes(left, within)) {
                for (String other : shapes(right, within)) {
                    boolean turned = alike && left == right && one.compareTo(other) > 0;
                    if (!turned && saysMore(sign, one, other)) {
                        shapes.add("(" + one + sign + other + ")");
                    }
                }
            }
        }
    }

    /** The sign that a shape is made by at last. */
    private static char topSign(String shape) {
        int open = 0;
        for (int i = 0; i < shape.length() && shape.charAt(0) == '('; i++) {
            char sign = shape.charAt(i);
            open += sign == '(' ? 1 : sign == ')' ? -1 : 0;
            if (open == 1 && "&/>US".indexOf(sign) >= 0) {
                return sign;
            }
        }
        return shape.charAt(0);
    }

    private static boolean isAlwaysOrNever(String shape) {
        return shape.equals(".") || shape.equals("!.");
    }

    /** A ! goes within, to the letters; GG, FF, HH, OO are one; GF says what FG says; N and F, W and G turn. */
    private static boolean saysMore(char sign, String part) {
        if (isAlwaysOrNever(part)) {
            return part.equals(".") ? "!NY".indexOf(sign) >= 0 : sign == 'W';
        }
        char top = topSign(part);
        switch (sign) {
            case '!':
                return "!NWGFHO>".indexOf(top) < 0;
            case 'G':
                return top != 'G' && top != 'F';
            case 'N':
                return top != 'F';
            case 'W':
                return top != 'G';
            default:
                return sign == 'Y' || top != sign;
        }
    }

    private static boolean saysMore(char sign, String one, String other) {
        boolean ofNots = topSign(one) == '!' || topSign(other) == '!';
        return !isAlwaysOrNever(one) && !isAlwaysOrNever(other) && !((sign == '>' || sign == '/') && ofNots);
    }
}
