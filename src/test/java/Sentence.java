import java.util.ArrayDeque;
import java.util.ArrayList;
import java.util.Deque;
import java.util.List;

/**
 * A rule read in another way than the program's (a scan for faults, then signs by their rank), and
 * what it says of a run, told straight from the document's words. It is slow and plain.
 */
final class Sentence {
    static final class Node {
        final char sign;
        final int at;
        final Node first;
        final Node second;

        Node(char sign, int at, Node first, Node second) {
            this.sign = sign;
            this.at = at;
            this.first = first;
            this.second = second;
        }
    }

    int kind = 0;
    int at = 0;
    Node root = null;
    private final String text;

    Sentence(String text) {
        this.text = text;
        scan();
        if (kind == 0) {
            root = tree();
            int least = firstFuture(root, false);
            if (least < Integer.MAX_VALUE) {
                kind = 2;
                at = least;
            }
        }
    }

    static boolean in(char sign, String signs) {
        return signs.indexOf(sign) >= 0;
    }

    private void scan() {
        boolean wantsOne = true;
        int open = 0;
        int nodes = 0;
        for (int i = 0; i < text.length(); i++) {
            char c = text.charAt(i);
            if (c == ' ') {
                continue;
            }
            boolean can = wantsOne
                ? in(c, "abcd.!NWGFYHO(")
                : in(c, ">/&US") || c == ')' && open > 0;
            boolean node = c != '(' && c != ')';
            if (!can || node && nodes == 9 || c == '(' && open == 8) {
                kind = 1;
                at = i;
                return;
            }
            nodes += node ? 1 : 0;
            open += c == '(' ? 1 : c == ')' ? -1 : 0;
            wantsOne = wantsOne ? !in(c, "abcd.") : in(c, ">/&US");
        }
        if (wantsOne || open > 0) {
            kind = 1;
            at = text.length();
        }
    }

    private static int rank(char sign) {
        return sign == '>' ? 1 : sign == '/' ? 2 : sign == '&' ? 3 : in(sign, "US") ? 4 : 5;
    }

    private record Sign(char sign, int at) {
    }

    private Node tree() {
        Deque<Sign> signs = new ArrayDeque<>();
        Deque<Node> nodes = new ArrayDeque<>();
        for (int i = 0; i < text.length(); i++) {
            char c = text.charAt(i);
            if (c == ' ') {
                continue;
            }
            if (in(c, "abcd.")) {
                nodes.push(new Node(c, i, null, null));
            } else if (c == '(' || in(c, "!NWGFYHO")) {
                signs.push(new Sign(c, i));
            } else if (c == ')') {
                while (signs.peek().sign != '(') {
                    join(signs, nodes);
                }
                signs.pop();
            } else {
                boolean fromRight = c == '>' || in(c, "US");
                while (!signs.isEmpty() && signs.peek().sign != '('
                    && (rank(signs.peek().sign) > rank(c)
                        || rank(signs.peek().sign) == rank(c) && !fromRight)) {
                    join(signs, nodes);
                }
                signs.push(new Sign(c, i));
            }
        }
        while (!signs.isEmpty()) {
            join(signs, nodes);
        }
        return nodes.pop();
    }

    private static void join(Deque<Sign> signs, Deque<Node> nodes) {
        Sign sign = signs.pop();
        Node last = nodes.pop();
        if (rank(sign.sign) == 5) {
            nodes.push(new Node(sign.sign, sign.at, last, null));
        } else {
            nodes.push(new Node(sign.sign, sign.at, nodes.pop(), last));
        }
    }

    private static int firstFuture(Node node, boolean within) {
        if (node == null) {
            return Integer.MAX_VALUE;
        }
        int here = within && in(node.sign, "NWGFU") ? node.at : Integer.MAX_VALUE;
        boolean inside = within || in(node.sign, "YHOS");
        return Math.min(here, Math.min(firstFuture(node.first, inside), firstFuture(node.second, inside)));
    }

    /** All nodes, each behind those that it is made of. */
    List<Node> nodes() {
        List<Node> all = new ArrayList<>();
        collect(root, all);
        return all;
    }

    private static void collect(Node node, List<Node> all) {
        if (node != null) {
            collect(node.first, all);
            collect(node.second, all);
            all.add(node);
        }
    }

    boolean isKeptBy(int[] run) {
        return run.length == 0 || holds(root, run, 0);
    }

    static boolean holds(Node node, int[] run, int place) {
        Node x = node.first;
        Node y = node.second;
        switch (node.sign) {
            case '.':
                return true;
            case '!':
                return !holds(x, run, place);
            case '&':
                return holds(x, run, place) && holds(y, run, place);
            case '/':
                return holds(x, run, place) || holds(y, run, place);
            case '>':
                return !holds(x, run, place) || holds(y, run, place);
            case 'N':
                return place + 1 < run.length && holds(x, run, place + 1);
            case 'W':
                return place + 1 >= run.length || holds(x, run, place + 1);
            case 'Y':
                return place > 0 && holds(x, run, place - 1);
            case 'G':
                return many(x, run, place, run.length) == run.length - place;
            case 'F':
                return many(x, run, place, run.length) > 0;
            case 'H':
                return many(x, run, 0, place + 1) == place + 1;
            case 'O':
                return many(x, run, 0, place + 1) > 0;
            case 'U':
                for (int there = place; there < run.length; there++) {
                    if (holds(y, run, there) && many(x, run, place, there) == there - place) {
                        return true;
                    }
                }
                return false;
            case 'S':
                for (int there = place; there >= 0; there--) {
                    if (holds(y, run, there) && many(x, run, there + 1, place + 1) == place - there) {
                        return true;
                    }
                }
                return false;
            default:
                return run[place] == node.sign - 'a';
        }
    }

    /** At how many places from one up to ahead of another it holds. */
    private static int many(Node node, int[] run, int from, int to) {
        int held = 0;
        for (int place = from; place < to; place++) {
            held += holds(node, run, place) ? 1 : 0;
        }
        return held;
    }
}
