import java.io.IOException;
import java.nio.file.Files;
import java.nio.file.Path;
import java.util.List;

/** What of ../shared/LANGUAGE.md can be seen from the program's text; run from the project's folder. */
public final class LanguageTest {
    private static final String[] BARRED = {"package", "import", "throw", "try", "catch", "finally", "assert", "synchronized",
        "var", "new Object", "System", "Object", "equals", "hashCode", "toString", "while", "goto", "volatile", "transient",
        "native", "strictfp", "protected", "->", "::", "\"", "@", "double", "float", "null", "instanceof"};

    public static void main(String[] args) throws IOException {
        List<String> lines = Files.readAllLines(Path.of("src/main/java/DeedDesk.java"));
        for (int i = 0; i < lines.size(); i++) {
            String code = lines.get(i).replaceAll("//.*", "");
            for (String word : BARRED) {
                String sought = Character.isLetter(word.charAt(0)) ? ".*\\b" + word + "\\b.*" : ".*" + word + ".*";
                Check.holds("line " + (i + 1) + " has " + word, !code.matches(sought));
            }
            boolean isStatic = code.contains("static") && !code.contains("(") && !code.contains("class");
            Check.holds("line " + (i + 1) + " has static state", !isStatic || code.contains("final"));
            Check.holds("line " + (i + 1) + " has a sign beyond 127", lines.get(i).chars().allMatch(c -> c < 128));
        }
        lengths(lines);
        callsOfItself(lines);
        Check.end();
    }

    /** Rule 8: a method that calls itself is private and static, and its depth is an argument. */
    private static void callsOfItself(List<String> lines) {
        String head = "";
        String name = "";
        int found = 0;
        for (int i = 0; i < lines.size(); i++) {
            String line = lines.get(i).replaceAll("//.*", "");
            if (isHead(line)) {
                head = line;
                name = line.replaceAll("\\(.*", "").replaceAll(".* ", "");
            } else if (!name.isEmpty() && line.matches("(.*[^.\\w])?" + name + "\\(.*")) {
                found++;
                Check.holds("line " + (i + 1) + " calls its own method", head.contains("private static")
                    && head.contains("int below"));
            }
        }
        Check.due("calls of a method by itself (one search, of two branches)", found, 2);
    }

    /** The line on which a method or a constructor begins. */
    private static boolean isHead(String line) {
        return line.matches(" {4,8}\\w[^=]*\\) \\{") && !line.matches(" *(if|for|while|switch|else)\\b.*");
    }

    private static void lengths(List<String> lines) {
        int start = -1;
        int classes = 0;
        int heads = 0;
        int ends = 0;
        for (int i = 0; i < lines.size(); i++) {
            String line = lines.get(i);
            classes += line.matches(" *(public |private )(static )?final class .*\\{") ? 1 : 0;
            if (isHead(line)) {
                start = i;
                heads++;
            }
            if (start >= 0 && line.equals(lines.get(start).replaceAll("\\S.*", "}"))) {
                Check.holds("the method at line " + (start + 1) + " is long", i - start < 60);
                start = -1;
                ends++;
            }
        }
        Check.holds("each method's end was met", heads > 50 && heads == ends);
        Check.holds("at most twelve classes, not " + classes, classes > 0 && classes <= 12);
    }
}
