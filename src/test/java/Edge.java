import java.io.IOException;
import java.nio.file.Files;
import java.nio.file.Path;
import java.util.ArrayList;
import java.util.HashMap;
import java.util.List;
import java.util.Map;
import java.util.TreeSet;
import java.util.regex.Matcher;
import java.util.regex.Pattern;

/**
 * A test of one sentence of the document, as src/test/edges tells it (src/test/edges/README.md says how): on a
 * new object, calls with the answers that are due; and ways to break the class by which the test must fail.
 */
final class Edge {
    private static final Pattern TITLE = Pattern.compile("== (\\d+) (.+)");
    private static final Pattern BREAK = Pattern.compile("breaks (.+?) : (.+?) ->(?: (.*))?");
    private static final Pattern TEXT = Pattern.compile("(told|tape|text) \"(.*)\"(?: = (-?\\d+)(?: fault (\\d))?)?");
    private static final Pattern CALL = Pattern.compile("(?:(\\d+) times )?([a-z]+\\(.*?\\))(?: = (-?\\d+))?");

    final int promise;
    final String words;
    final String place;
    final List<Break> breaks = new ArrayList<>();
    private final List<Step> steps = new ArrayList<>();

    private Edge(int promise, String words, String place) {
        this.promise = promise;
        this.words = words;
        this.place = place;
    }

    @Override
    public String toString() {
        return place + ": promise " + promise + ": " + words;
    }

    /** In the method that begins by an anchor one piece of the class becomes another. */
    record Break(String anchor, String from, String to) { }

    /** Calls that come in one go; what is due of the last of them, if anything. */
    private record Step(String words, List<Face.Call> calls, Long due, Long fault, boolean leaves, boolean leavesFault) { }

    // ---- how they are read

    static List<Edge> all() throws IOException {
        TreeSet<Path> files = new TreeSet<>();
        try (var list = Files.list(Path.of("src/test/edges"))) {
            list.filter(p -> p.toString().endsWith(".txt")).forEach(files::add);
        }
        List<Edge> edges = new ArrayList<>();
        Map<String, List<Step>> beginnings = new HashMap<>();
        for (Path file : files) {
            readFile(file, edges, beginnings);
        }
        return edges;
    }

    private static void readFile(Path file, List<Edge> edges, Map<String, List<Step>> beginnings) throws IOException {
        List<Step> steps = null;
        Edge edge = null;
        int number = 0;
        for (String raw : Files.readAllLines(file)) {
            number++;
            String line = raw.trim();
            String place = file.getFileName() + ":" + number;
            Matcher title = TITLE.matcher(line);
            if (line.isEmpty() || line.startsWith("#")) {
                continue;
            }
            if (title.matches()) {
                edge = new Edge(Integer.parseInt(title.group(1)), title.group(2), place);
                edges.add(edge);
                steps = edge.steps;
            } else if (line.startsWith("-- ")) {
                edge = null;
                steps = new ArrayList<>();
                beginnings.put(line.substring(3), steps);
            } else if (steps == null) {
                throw new IllegalArgumentException(place + ": ahead of a title: " + line);
            } else if (line.startsWith("breaks ") && edge != null) {
                edge.breaks.add(readBreak(line, place));
            } else if (line.startsWith("use ")) {
                List<Step> beginning = beginnings.get(line.substring(4));
                if (beginning == null) {
                    throw new IllegalArgumentException(place + ": no such beginning: " + line);
                }
                steps.addAll(beginning);
            } else {
                for (String part : line.split(" & ")) {
                    steps.add(readStep(part.trim(), place));
                }
            }
        }
    }

    private static Break readBreak(String line, String place) {
        Matcher m = BREAK.matcher(line);
        if (!m.matches()) {
            throw new IllegalArgumentException(place + ": breaks what? " + line);
        }
        return new Break(m.group(1), m.group(2), m.group(3) == null ? "" : m.group(3));
    }

    private static Step readStep(String line, String place) {
        boolean leaves = line.startsWith("refused ") || line.startsWith("leaves ");
        boolean stays = line.startsWith("stays ");
        String rest = leaves || stays ? line.substring(line.indexOf(' ') + 1) : line;
        Matcher text = TEXT.matcher(rest);
        Matcher call = CALL.matcher(rest);
        List<Face.Call> calls = new ArrayList<>();
        Long due = null;
        Long fault = null;
        if (text.matches()) {
            for (char c : text.group(2).toCharArray()) {
                calls.add(new Face.Call("feed", (int) c));
            }
            if (!text.group(1).equals("tape")) {
                calls.add(new Face.Call("text"));
            }
            due = longOf(text.group(3));
            fault = text.group(1).equals("told") ? Long.valueOf(0) : longOf(text.group(4));
        } else if (call.matches()) {
            int times = call.group(1) == null ? 1 : Integer.parseInt(call.group(1));
            for (int i = 0; i < times; i++) {
                calls.add(Face.Call.read(call.group(2)));
            }
            due = longOf(call.group(3));
        } else {
            throw new IllegalArgumentException(place + ": no step: " + line);
        }
        return new Step(place + ": " + line, calls, due, fault, leaves || stays, leaves);
    }

    private static Long longOf(String word) {
        return word == null ? null : Long.valueOf(word);
    }

    // ---- how they are run

    /** What is not as due: nothing, if the sentence holds. */
    List<String> wrongs(Face face) {
        List<String> wrongs = new ArrayList<>();
        List<Face.Call> history = new ArrayList<>();
        try {
            Face.Lots lots = face.make();
            for (Step step : steps) {
                List<Face.Call> before = List.copyOf(history);
                take(step, lots, history, wrongs);
                if (step.leaves) {
                    look(step, face, before, history, wrongs);
                }
            }
        } catch (Face.Thrown e) {
            wrongs.add(this + ": " + e.getMessage());
        }
        return wrongs;
    }

    private static void take(Step step, Face.Lots lots, List<Face.Call> history, List<String> wrongs) {
        long answer = 0;
        for (Face.Call call : step.calls) {
            answer = lots.put(call);
            history.add(call);
        }
        if (step.due != null && answer != step.due) {
            wrongs.add(step.words + " - answered " + answer);
        }
        if (step.fault != null) {
            Face.Call call = new Face.Call("fault");
            history.add(call);
            long fault = lots.put(call);
            if (fault != step.fault) {
                wrongs.add(step.words + " - fault() answered " + fault);
            }
        }
    }

    /** Whether all is as it was ahead of the step. */
    private static void look(Step step, Face face, List<Face.Call> before, List<Face.Call> after, List<String> wrongs) {
        String was = Whole.of(face, before, step.leavesFault);
        String is = Whole.of(face, after, step.leavesFault);
        if (!was.equals(is)) {
            wrongs.add(step.words + " - changed something: " + firstDifference(was, is));
        }
    }

    private static String firstDifference(String was, String is) {
        String[] a = was.split("\n");
        String[] b = is.split("\n");
        for (int i = 0; i < Math.min(a.length, b.length); i++) {
            if (!a[i].equals(b[i])) {
                return a[i] + " became " + b[i];
            }
        }
        return "more is told";
    }
}
