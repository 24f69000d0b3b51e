import java.lang.reflect.Method;
import java.lang.reflect.Modifier;
import java.nio.file.DirectoryStream;
import java.nio.file.Files;
import java.nio.file.Path;
import java.util.Set;
import java.util.TreeSet;
import java.util.regex.Matcher;
import java.util.regex.Pattern;

/** What README.md tells: its lesson is called line by line, its tables must leave nothing out. */
public final class ReadmeTest {
    private static final Pattern CALL =
            Pattern.compile("^x\\.((\\w+)\\([^)]*\\)); +// (-?\\d+)(:.*)?$");

    public static void main(String[] args) throws Exception {
        String readme = Files.readString(Path.of("README.md"));
        Set<String> face = face();
        lesson(readme, face);
        tableOfCalls(readme, face);
        tests(readme);
        Check.end();
    }

    private static Set<String> face() {
        Set<String> names = new TreeSet<>();
        for (Method method : ClassAnswers.class.getDeclaredMethods()) {
            if (Modifier.isPublic(method.getModifiers())) {
                names.add(method.getName());
            }
        }
        return names;
    }

    private static void lesson(String readme, Set<String> face) {
        String begin = "```java\n";
        int from = readme.indexOf(begin);
        Check.holds("README.md has a lesson", from >= 0);
        int to = readme.indexOf("```", from + begin.length());
        Run run = new Run();
        Set<String> called = new TreeSet<>();
        for (String line : readme.substring(from + begin.length(), to).split("\n")) {
            if (!line.startsWith("x.")) {
                continue;
            }
            Matcher call = CALL.matcher(line);
            boolean isTold = call.matches();
            Check.holds("README.md tells what it answers: " + line, isTold);
            if (isTold) {
                called.add(call.group(2));
                // A figure's three bits are told apart by _ there.
                run.due(call.group(1).replace("_", ""), Integer.parseInt(call.group(3)));
            }
        }
        Check.holds("the lesson has each call: " + called, called.equals(face));
    }

    private static void tableOfCalls(String readme, Set<String> face) {
        for (String name : face) {
            Check.holds("README.md has a line for " + name, readme.contains("\n| `" + name + "("));
        }
    }

    private static void tests(String readme) throws Exception {
        Check.holds("README.md tells how to run the tests", readme.contains("\n.ci/run\n"));
        try (DirectoryStream<Path> files =
                Files.newDirectoryStream(Path.of("src/test/java"), "*Test.java")) {
            for (Path file : files) {
                String name = file.getFileName().toString().replace(".java", "");
                Check.holds("README.md has a line for " + name,
                        Pattern.compile("(?m)^\\| .*\\b" + name + "\\b.* \\|").matcher(readme).find());
            }
        }
    }
}
