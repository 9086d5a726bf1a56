import java.nio.file.Files;
import java.nio.file.Path;
import java.util.List;
import java.util.TreeSet;
import java.util.regex.Matcher;
import java.util.regex.Pattern;

/** The examples of README.md are compiled and run as they stand there, one behind another, and answer as it says. */
public final class ReadmeTest {
    private static final Check CHECK = new Check("ReadmeTest");
    private static final Pattern BLOCK = Pattern.compile("(?s)```java\n(.*?)```");
    private static final Pattern ANSWERED = Pattern.compile("(lots\\.\\w+\\(.*\\));\\s+// (-?\\d+)\\b.*");

    public static void main(String[] args) throws Exception {
        String readme = Files.readString(Path.of("README.md"));
        examples(readme);
        testsAreNamed(readme);
        CHECK.finish();
    }

    private static void examples(String readme) throws Exception {
        StringBuilder code = new StringBuilder();
        StringBuilder due = new StringBuilder();
        int answers = 0;
        Matcher blocks = BLOCK.matcher(readme);
        while (blocks.find()) {
            for (String line : blocks.group(1).split("\n")) {
                Matcher m = ANSWERED.matcher(line);
                if (m.matches()) {
                    code.append("got.add((long) ").append(m.group(1)).append(");\n");
                    due.append(m.group(2)).append(' ').append(m.group(1)).append('\n');
                    answers++;
                } else {
                    code.append(line).append('\n');
                }
            }
        }
        CHECK.holds("README.md has an example, some 40 answers or more: " + answers, answers >= 40);
        String source = "public class Example { public static java.util.List<Long> run() {\n"
            + "java.util.List<Long> got = new java.util.ArrayList<>();\n" + code + "return got; } }";
        Class<?> example = Compiled.of("Example", source, ReadmeTest.class.getClassLoader());
        List<?> got = (List<?>) example.getMethod("run").invoke(null);
        String[] lines = due.toString().split("\n");
        for (int i = 0; i < lines.length; i++) {
            int blank = lines[i].indexOf(' ');
            CHECK.due(lines[i].substring(blank + 1), (Long) got.get(i), Long.parseLong(lines[i].substring(0, blank)));
        }
    }

    private static void testsAreNamed(String readme) throws Exception {
        TreeSet<String> named = new TreeSet<>();
        for (String row : readme.split("\n")) {
            Matcher m = Pattern.compile("\\b(\\w+Test)\\b").matcher(row.startsWith("| ") ? row.split("\\|")[1] : "");
            while (m.find()) {
                named.add(m.group(1));
            }
        }
        TreeSet<String> is = new TreeSet<>();
        try (var files = Files.list(Path.of("src/test/java"))) {
            files.map(f -> f.getFileName().toString()).filter(f -> f.endsWith("Test.java"))
                .forEach(f -> is.add(f.replace(".java", "")));
        }
        CHECK.holds("README.md names each test: " + is + ", not " + named, is.equals(named));
    }
}
