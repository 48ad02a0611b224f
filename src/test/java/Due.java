/** Counts the answers that are not as due, and tells them; what every test here is built on. */
final class Due {
    private static int wrong = 0;
    private static int asked = 0;

    private Due() {
    }

    static void due(String call, long got, long want) {
        asked++;
        if (got != want) {
            wrong++;
            if (wrong <= 40) {
                System.out.println(call + " answered " + got + ", due is " + want);
            }
        }
    }

    static void end() {
        System.out.println(wrong == 0
            ? "all " + asked + " answers are as due"
            : wrong + " of " + asked + " answers are not as due");
        if (wrong != 0) {
            System.exit(1);
        }
    }

    /** The words whose feeds put a text on the tape. */
    static long[] words(String text) {
        long[] words = new long[(text.length() + 7) / 8];
        for (int i = 0; i < text.length(); i++) {
            words[i / 8] |= (long) (text.charAt(i) & 255) << (8 * (i % 8));
        }
        return words;
    }

    static void feed(RunWatcher x, String text) {
        for (long word : words(text)) {
            x.feed(word);
        }
    }

    /** Puts a text alone on the tape and reads it. */
    static int read(RunWatcher x, String text) {
        x.cut();
        feed(x, text);
        return x.read();
    }

    static RunWatcher with(String text) {
        RunWatcher x = new RunWatcher();
        read(x, text);
        return x;
    }
}
