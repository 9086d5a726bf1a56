import java.nio.file.Files;
import java.nio.file.Path;
import java.util.ArrayList;
import java.util.LinkedHashMap;
import java.util.List;
import java.util.Map;
import java.util.concurrent.ConcurrentLinkedQueue;
import java.util.concurrent.ExecutorService;
import java.util.concurrent.Executors;
import java.util.concurrent.TimeUnit;

/**
 * The class is broken on purpose, in each of the ways that src/test/edges tells, by itself; the sentence under
 * which it stands must then fail. So each test is known to hold its sentence.
 */
public final class BreakTest {
    private static final Path SOURCE = Path.of("src/main/java/HedgehogLots.java");
    private static final ConcurrentLinkedQueue<String> WRONGS = new ConcurrentLinkedQueue<>();

    private BreakTest() {
    }

    public static void main(String[] args) throws Exception {
        String source = Files.readString(SOURCE);
        Map<Edge.Break, List<Edge>> breaks = new LinkedHashMap<>();
        int sentences = 0;
        for (Edge edge : Edge.all()) {
            if (edge.breaks.isEmpty()) {
                WRONGS.add(edge + " - is broken in no way");
            }
            for (Edge.Break b : edge.breaks) {
                breaks.computeIfAbsent(b, key -> new ArrayList<>()).add(edge);
                sentences++;
            }
        }
        ExecutorService workers = Executors.newFixedThreadPool(Math.max(1, Runtime.getRuntime().availableProcessors()));
        for (Map.Entry<Edge.Break, List<Edge>> e : breaks.entrySet()) {
            workers.execute(() -> tryOut(source, e.getKey(), e.getValue()));
        }
        workers.shutdown();
        if (!workers.awaitTermination(10, TimeUnit.MINUTES)) {
            WRONGS.add("a broken class does not end");
        }
        Check check = new Check("BreakTest");
        for (String wrong : WRONGS) {
            check.holds(wrong, false);
        }
        for (int i = WRONGS.size(); i < sentences; i++) {
            check.holds("a broken class fails", true);
        }
        check.finish();
    }

    private static void tryOut(String source, Edge.Break b, List<Edge> edges) {
        try {
            Face face = new Face(Compiled.of("HedgehogLots", broken(source, b), ClassLoader.getPlatformClassLoader()));
            for (Edge edge : edges) {
                if (edge.wrongs(face).isEmpty()) {
                    WRONGS.add(edge + " - does not see " + b);
                }
            }
        } catch (ReflectiveOperationException | RuntimeException | Error e) {
            WRONGS.add(edges.get(0) + " - " + b + ": " + e);
        }
    }

    /** The piece is looked for from the anchor on, as far as the next blank line. */
    static String broken(String source, Edge.Break b) {
        int anchor = source.indexOf(b.anchor());
        if (anchor < 0 || source.indexOf(b.anchor(), anchor + 1) >= 0) {
            throw new IllegalArgumentException("the anchor does not stand just once in the class");
        }
        int end = source.indexOf("\n\n", anchor);
        int at = source.indexOf(b.from(), anchor);
        if (at < 0 || end >= 0 && at >= end) {
            throw new IllegalArgumentException("the piece does not stand behind the anchor");
        }
        return source.substring(0, at) + b.to() + source.substring(at + b.from().length());
    }
}
