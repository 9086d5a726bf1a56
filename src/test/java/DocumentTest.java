import java.nio.file.Files;
import java.nio.file.Path;
import java.util.ArrayList;
import java.util.HashSet;
import java.util.List;
import java.util.Set;

/**
 * src/test/document.txt tells the document from its first line to the last, and under each sentence what holds it:
 * no sentence is left out, none is without a test, and no test of src/test/edges is without a sentence.
 */
public final class DocumentTest {
    private static final Check CHECK = new Check("DocumentTest");
    private static final Path INDEX = Path.of("src/test/document.txt");

    /** Pieces of the document that stand together, and the lines under them. */
    private static final class Entry {
        final StringBuilder words = new StringBuilder();
        final List<String> holders = new ArrayList<>();
    }

    public static void main(String[] args) throws Exception {
        List<Entry> entries = entries();
        sameWords(entries);
        List<Edge> edges = Edge.all();
        Set<Edge> named = new HashSet<>();
        for (Entry entry : entries) {
            CHECK.holds("is held by something: " + entry.words, !entry.holders.isEmpty());
            for (String holder : entry.holders) {
                holder(entry, holder, edges, named);
            }
        }
        Set<String> titles = new HashSet<>();
        for (Edge edge : edges) {
            CHECK.holds("stands under a sentence of " + INDEX + ": " + edge, named.contains(edge));
            CHECK.holds("has a title of its own: " + edge, titles.add(edge.promise + " " + edge.words));
        }
        CHECK.finish();
    }

    private static List<Entry> entries() throws Exception {
        List<Entry> entries = new ArrayList<>();
        Entry entry = null;
        for (String line : Files.readAllLines(INDEX)) {
            if (line.startsWith("> ")) {
                if (entry == null || !entry.holders.isEmpty()) {
                    entry = new Entry();
                    entries.add(entry);
                }
                entry.words.append(line.substring(2)).append(' ');
            } else if (line.startsWith("= ") || line.startsWith("* ") || line.startsWith(". ")) {
                CHECK.holds("stands under a sentence: " + line, entry != null);
                if (entry != null) {
                    entry.holders.add(line);
                }
            } else {
                CHECK.holds("is a line of " + INDEX + ": " + line, line.isEmpty() || line.startsWith("#"));
            }
        }
        return entries;
    }

    /** But for blanks and ends of lines. */
    private static void sameWords(List<Entry> entries) throws Exception {
        StringBuilder told = new StringBuilder();
        for (Entry entry : entries) {
            told.append(entry.words);
        }
        String[] is = told.toString().trim().split("\\s+");
        String[] due = new Document().text.trim().split("\\s+");
        for (int i = 0; i < Math.max(is.length, due.length); i++) {
            if (i >= is.length || i >= due.length || !is[i].equals(due[i])) {
                CHECK.holds("the words of the document: ..." + around(due, i) + "... but " + INDEX + " has: ..." + around(is, i),
                    false);
                return;
            }
        }
        CHECK.due("words of the document", is.length, due.length);
    }

    private static String around(String[] words, int i) {
        StringBuilder s = new StringBuilder();
        for (int j = Math.max(0, i - 6); j < Math.min(words.length, i + 3); j++) {
            s.append(' ').append(words[j]);
        }
        return s.toString();
    }

    private static void holder(Entry entry, String line, List<Edge> edges, Set<Edge> named) {
        String words = line.substring(2);
        if (line.startsWith("* ")) {
            CHECK.holds("there is a test " + words, Files.exists(Path.of("src/test/java", words + ".java")));
        } else if (line.startsWith("= ")) {
            int found = 0;
            for (Edge edge : edges) {
                if ((edge.promise + " " + edge.words).startsWith(words)) {
                    named.add(edge);
                    found++;
                }
            }
            CHECK.holds("there is a test that begins by '" + words + "', for: " + entry.words, found > 0);
        }
    }
}
