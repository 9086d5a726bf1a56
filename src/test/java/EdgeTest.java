import java.util.List;
import java.util.TreeMap;

/**
 * The sentences of src/test/edges, each on its own; every promise must have some. They are put to the model, too,
 * so that what is due does not hang on one reading alone.
 */
public final class EdgeTest {
    private static final Check CHECK = new Check("EdgeTest");

    private EdgeTest() {
    }

    /** With words: those sentences alone that have them in their promise and words, as "33 FULL". */
    public static void main(String[] args) throws Exception {
        String asked = String.join(" ", args);
        Face face = new Face(HedgehogLots.class);
        Face model = new Face(Model.class);
        TreeMap<Integer, Integer> sentences = new TreeMap<>();
        for (Edge edge : Edge.all()) {
            if ((edge.promise + " " + edge.words).contains(asked)) {
                sentences.merge(edge.promise, 1, Integer::sum);
                CHECK.promise(edge.promise);
                CHECK.due("wrong answers of: " + edge.words, told(edge.wrongs(face)), 0);
                CHECK.due("wrong answers of the model of: " + edge.words, told(edge.wrongs(model)), 0);
            }
        }
        CHECK.holds("there are such sentences", !sentences.isEmpty());
        for (int promise = 0; promise <= 45 && asked.isEmpty(); promise++) {
            CHECK.promise(promise);
            CHECK.holds("has sentences of its own", sentences.containsKey(promise));
        }
        CHECK.finish();
    }

    private static int told(List<String> wrongs) {
        for (String wrong : wrongs) {
            System.out.println(wrong);
        }
        return wrongs.size();
    }
}
