import java.io.IOException;
import java.nio.file.Files;
import java.nio.file.Path;
import java.util.regex.Matcher;
import java.util.regex.Pattern;

/** The README's examples: a call with a number in its comment answers it; run from the project's folder. */
public final class ReadmeTest {
    private static final Pattern CALL = Pattern.compile(".*\\bdesk\\.(\\w+)\\(([^()]*)\\); *// (?:(-?\\d+):)?.*");

    public static void main(String[] args) throws IOException {
        DeedDesk x = new DeedDesk();
        int told = 0;
        for (String line : Files.readAllLines(Path.of("README.md"))) {
            Matcher m = CALL.matcher(line);
            if (line.startsWith("DeedDesk desk = new")) {
                x = new DeedDesk();
            } else if (m.matches()) {
                String numbers = m.group(2).replace(",", "").replace("true", "1").replace("false", "0");
                String call = numbers.isEmpty() ? m.group(1) : m.group(1) + " " + numbers;
                int got = Calls.call(x, call);
                Check.holds("README: " + call + " answered " + got, got >= 0);
                if (m.group(3) != null) {
                    Check.due("README: " + call, got, Integer.parseInt(m.group(3)));
                    told++;
                }
            }
        }
        Check.due("README: answers that its examples tell", told, 9);
        Check.end();
    }
}
