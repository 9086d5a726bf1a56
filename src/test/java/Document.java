import java.io.IOException;
import java.nio.file.Files;
import java.nio.file.Path;
import java.util.ArrayList;
import java.util.LinkedHashMap;
import java.util.List;
import java.util.Map;
import java.util.regex.Matcher;
import java.util.regex.Pattern;

/** ../shared/DOC.md, and what it says of the face. */
final class Document {
    private static final Pattern CALL = Pattern.compile("public (int|long) (\\w+)\\(([^)]*)\\);");
    private static final Pattern CONSTANTS = Pattern.compile("public static final int ([^;]*);");
    private static final Pattern HEADING =
        Pattern.compile("Ahead of the calls ((?:`\\w+`(?:, )?)+) the interface says: ---- (.*)\\.");

    final String text;

    Document() throws IOException {
        text = Files.readString(Path.of("../shared/DOC.md"));
    }

    private String faceBlock() {
        int start = text.indexOf("```java");
        int end = text.indexOf("```", start + 3);
        return text.substring(start, end);
    }

    /** Each call as "int slug(int)", in its order. */
    List<String> calls() {
        List<String> calls = new ArrayList<>();
        Matcher m = CALL.matcher(faceBlock());
        while (m.find()) {
            calls.add(m.group(1) + " " + m.group(2) + "(" + m.group(3).replaceAll("(\\w+) \\w+", "$1") + ")");
        }
        return calls;
    }

    /** The names of the calls, in their order. */
    List<String> names() {
        List<String> names = new ArrayList<>();
        for (String call : calls()) {
            names.add(call.replaceAll(".* (\\w+)\\(.*", "$1"));
        }
        return names;
    }

    Map<String, Integer> constants() {
        Map<String, Integer> constants = new LinkedHashMap<>();
        Matcher m = CONSTANTS.matcher(faceBlock());
        while (m.find()) {
            for (String part : m.group(1).split(",")) {
                String[] sides = part.trim().split(" = ");
                constants.put(sides[0], Integer.valueOf(sides[1]));
            }
        }
        return constants;
    }

    /** What the interface says ahead of some calls, and these calls. */
    Map<String, List<String>> headings() {
        Map<String, List<String>> headings = new LinkedHashMap<>();
        Matcher m = HEADING.matcher(text);
        while (m.find()) {
            headings.put(m.group(2), List.of(m.group(1).replace("`", "").split(", ")));
        }
        return headings;
    }
}
