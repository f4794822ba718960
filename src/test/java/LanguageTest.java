import java.io.IOException;
import java.nio.file.Files;
import java.nio.file.Path;
import java.util.List;
import java.util.regex.Matcher;
import java.util.regex.Pattern;

/** What can be seen in the source of LANGUAGE.md's rules: words that it leaves out, imports, lengths of methods. */
public final class LanguageTest {
    private static final Path SOURCE = Path.of("src/main/java/TripleSieve.java");
    private static final List<String> IMPORTS = List.of("import java.util.Arrays;", "import java.util.NoSuchElementException;");
    private static final Pattern LEFT_OUT = Pattern.compile("->|::|\\b(try|catch|finally|synchronized|assert|package|"
        + "protected|volatile|transient|native|strictfp|var|record|Random|System\\.(?!arraycopy)\\w+|Thread|\\w+Exact|"
        + "getMessage|hashCode|HashMap|HashSet|Map|Set)\\b");
    private static final Pattern METHOD = Pattern.compile("^( {4}| {8})(public|private)[^=;]*\\{$");
    private static final int MOST_LINES = 60;
    private static final int MOST_CLASSES = 12;
    private static int wrong = 0;

    public static void main(String[] args) throws IOException {
        List<String> lines = Files.readAllLines(SOURCE);
        int classes = 0;
        for (int i = 0; i < lines.size(); i++) {
            String line = bare(lines.get(i));
            Matcher left = LEFT_OUT.matcher(line);
            check(!left.find(), i, "has what the rules leave out");
            check(!line.startsWith("import") || IMPORTS.contains(line), i, "imports another class");
            check(!line.contains("public static") || line.contains("int NONE = -1"), i, "is another public static");
            check(line.chars().allMatch(c -> c == '\t' || c >= 32 && c < 127), i, "has a sign beyond 126");
            classes += line.matches(".*\\bclass \\w+ \\{") ? 1 : 0;
            if (METHOD.matcher(line).matches() && !line.contains(" class ")) {
                checkLength(lines, i);
            }
        }
        check(classes >= 1 && classes <= MOST_CLASSES, 0, "has " + classes + " classes");
        System.out.println(wrong == 0 ? "the source is as due" : wrong + " lines are not as due");
        if (wrong != 0) {
            System.exit(1);
        }
    }

    /** Without comments and written texts. */
    private static String bare(String line) {
        String trimmed = line.trim();
        if (trimmed.startsWith("/*") || trimmed.startsWith("*") || trimmed.startsWith("//")) {
            return "";
        }
        return line.replaceAll("\"[^\"]*\"", "\"\"").replaceAll("//.*", "");
    }

    private static void checkLength(List<String> lines, int from) {
        String indent = lines.get(from).replaceAll("\\S.*", "");
        int to = from;
        while (to < lines.size() && !lines.get(to).equals(indent + "}")) {
            to++;
        }
        check(to - from < MOST_LINES, from, "begins a method of over " + MOST_LINES + " lines");
    }

    private static void check(boolean good, int line, String what) {
        if (!good) {
            wrong++;
            System.out.println("line " + (line + 1) + " " + what);
        }
    }
}
