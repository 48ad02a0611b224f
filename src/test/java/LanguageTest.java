import java.io.IOException;
import java.nio.file.Files;
import java.nio.file.Path;
import java.util.ArrayList;
import java.util.List;
import java.util.Set;
import java.util.regex.Matcher;
import java.util.regex.Pattern;

/** Looks through the program for what ../shared/LANGUAGE.md rules out and a text search can find. */
public final class LanguageTest {
    private static final Set<String> FACE = Set.of("feed", "read", "fault", "cut", "leads", "verdict", "far",
        "toward", "runs", "run", "event", "lost", "told", "may", "state", "events", "anew", "keep", "against",
        "apart", "count");
    private static final int LONGEST_METHOD = 60;

    public static void main(String[] args) throws IOException {
        String source = Files.readString(Path.of(args.length > 0 ? args[0] : "src/main/java/RunWatcher.java"));
        String code = withoutComments(source);
        nowhere(code, "\\b(throw|throws|try|catch|synchronized|assert|import|package|protected|float|double)\\b");
        nowhere(code, "->|::|\\bnew\\s+Object\\b|\\bthis\\s*[,)]");
        nowhere(code, "\\b(equals|hashCode|toString|\\w+Exact|System\\.(?!arraycopy\\b)\\w+|Object|Random)\\s*\\(");
        nowhere(code, "\\[\\s*\\]\\s*\\[|\\bvar\\b|\\bObject\\b|\\bThread\\b|\\bwhile\\b");
        nowhere(code, "\\bstatic\\s*\\{");
        nowhere(code, "\\bstatic\\s+(?!final\\b)(\\w|\\[\\])+\\s+\\w+\\s*[=;]");
        nowhere(code, "[^\\x00-\\x7f]");
        Due.due("each new one is made with the object, where a field begins", many(code, "\\bnew\\b"),
            many(code, "\\n *private (final )?[\\w\\[\\]]+ \\w+ = new [^;{]*;"));
        privateNames(code);
        Due.due("classes inside", many(code, "\\bclass\\s+\\w+") - 1 <= 12 ? 1 : 0, 1);
        Due.due("classes inside are private, static and final",
            many(code, "\\bclass\\s+\\w+") - 1, many(code, "private static final class \\w+"));
        lengths(code);
        Due.end();
    }

    private static String withoutComments(String source) {
        return source.replaceAll("(?s)/\\*.*?\\*/", "").replaceAll("//[^\n]*", "");
    }

    private static int many(String code, String pattern) {
        Matcher matcher = Pattern.compile(pattern).matcher(code);
        int many = 0;
        while (matcher.find()) {
            many++;
        }
        return many;
    }

    private static void nowhere(String code, String pattern) {
        Matcher matcher = Pattern.compile(pattern).matcher(code);
        List<String> found = new ArrayList<>();
        while (matcher.find()) {
            found.add(matcher.group());
        }
        Due.due("places of " + pattern + " " + found, found.size(), 0);
    }

    private static void privateNames(String code) {
        Matcher matcher = Pattern.compile("\\bprivate\\s+(?:static\\s+)?[\\w\\[\\]]+\\s+(\\w+)\\s*\\(").matcher(code);
        while (matcher.find()) {
            Due.due("private method " + matcher.group(1) + " bears a public name",
                FACE.contains(matcher.group(1)) ? 1 : 0, 0);
        }
    }

    /** A method is what stands between a line that opens it and the brace as far in that ends it. */
    private static void lengths(String code) {
        String[] lines = code.split("\n");
        Pattern head = Pattern.compile("^(\\s+)(?!return|if|for|else|switch|private static final class)\\w[^=;]*\\) \\{$");
        for (int i = 0; i < lines.length; i++) {
            Matcher matcher = head.matcher(lines[i]);
            if (matcher.matches()) {
                int end = i;
                while (end < lines.length && !lines[end].equals(matcher.group(1) + "}")) {
                    end++;
                }
                Due.due("lines of " + lines[i].trim() + " " + (end - i), end - i <= LONGEST_METHOD ? 1 : 0, 1);
                Due.due("parameters of " + lines[i].trim(), many(lines[i], ",") <= 6 ? 1 : 0, 1);
            }
        }
    }
}
