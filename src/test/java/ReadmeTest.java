import java.io.IOException;
import java.lang.reflect.Method;
import java.lang.reflect.Modifier;
import java.nio.file.Files;
import java.nio.file.Path;
import java.util.regex.Matcher;
import java.util.regex.Pattern;

/** README.md: the calls that it shows, in a row on one object, answer what it says, and it names every call. */
public final class ReadmeTest {
    private static final Check check = new Check("ReadmeTest");

    public static void main(String[] args) throws IOException {
        String page = Files.readString(Path.of("README.md"));
        ThroughATrumpet x = new ThroughATrumpet();
        Matcher shown = Pattern.compile("(?m)^x\\.(\\w+)\\(([^)]*)\\); *// (-?\\d+): ").matcher(page);
        int calls = 0;
        while (shown.find()) {
            check.due(shown.group(1), Calls.call(x, line(shown.group(1), shown.group(2))), Long.parseLong(shown.group(3)));
            calls++;
        }
        check.due("calls shown", calls, page.split("\nx\\.").length - 1);
        for (Method m : ThroughATrumpet.class.getDeclaredMethods()) {
            if (Modifier.isPublic(m.getModifiers())) {
                check.holds("README.md names " + m.getName(), page.contains("`" + m.getName() + "`"));
            }
        }
        check.holds("README.md names .ci/run", page.contains("`.ci/run`"));
        for (String name : Path.of("src/test/java").toFile().list()) {
            if (name.endsWith("Test.java")) {
                check.holds("README.md names " + name, page.contains("`" + name.replace(".java", "") + "`"));
            }
        }
        check.end();
    }

    private static String line(String name, String args) {
        StringBuilder line = new StringBuilder(name);
        for (String arg : args.isEmpty() ? new String[0] : args.split(", ")) {
            line.append(' ').append(Long.decode(arg.replace("L", "")));
        }
        return line.toString();
    }
}
