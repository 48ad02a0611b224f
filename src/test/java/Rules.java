import java.util.Random;

/** Rules made by chance (always the same ones): sound ones, and texts that bear faults. */
final class Rules {
    private final Random chance;

    Rules(long seed) {
        chance = new Random(seed);
    }

    /** A rule of so many nodes that has no fault, if they and its brackets are few. */
    String sound(int nodes) {
        return make(nodes, true);
    }

    /** A rule in which any sign may stand anywhere. */
    String any(int nodes) {
        return make(nodes, false);
    }

    private String make(int nodes, boolean sound) {
        for (int i = 0; i < 1000; i++) {
            String text = part(nodes, false, sound);
            if (text.length() <= 60) {
                return text;
            }
        }
        return "a";
    }

    private String pick(String signs) {
        return String.valueOf(signs.charAt(chance.nextInt(signs.length())));
    }

    private String part(int nodes, boolean inPast, boolean sound) {
        boolean past = inPast && sound;
        if (nodes <= 1) {
            return pick("aaabbbccd.");
        }
        if (nodes == 2 || chance.nextInt(5) < 2) {
            String sign = pick(past ? "!YHO" : "!NWGFYHONWGF");
            return sign + wrap(part(nodes - 1, past || "YHO".contains(sign), sound), nodes - 1 > 1);
        }
        String sign = pick(past ? "&/>S" : "&/>USU");
        int left = 1 + chance.nextInt(nodes - 2);
        boolean within = past || sign.equals("S");
        return wrap(part(left, within, sound), left > 1) + blank() + sign + blank()
            + wrap(part(nodes - 1 - left, within, sound), nodes - 1 - left > 1);
    }

    private String blank() {
        return chance.nextInt(8) == 0 ? " " : "";
    }

    private String wrap(String text, boolean must) {
        boolean bare = text.length() == 1 || "!NWGFYHO".indexOf(text.charAt(0)) >= 0 && text.length() == 2;
        return must && !bare || chance.nextInt(12) == 0 ? "(" + text + ")" : text;
    }

    /** The same text without some of its brackets, or with a byte put in, taken out or changed. */
    String bruised(String text) {
        StringBuilder changed = new StringBuilder(text);
        int times = 1 + chance.nextInt(3);
        for (int i = 0; i < times && changed.length() > 0; i++) {
            int at = chance.nextInt(changed.length());
            char sign = chance.nextInt(10) == 0
                ? (char) (1 + chance.nextInt(255))
                : "abcd.!&/>NWGFUYHOS() ".charAt(chance.nextInt(21));
            switch (chance.nextInt(3)) {
                case 0:
                    changed.insert(at, sign);
                    break;
                case 1:
                    changed.deleteCharAt(at);
                    break;
                default:
                    changed.setCharAt(at, sign);
            }
        }
        return changed.length() > 60 ? changed.substring(0, 60) : changed.toString();
    }

    /** The same text without any bracket: what binds first is then the signs' own rank. */
    static String bare(String text) {
        return text.replace("(", "").replace(")", "");
    }
}
