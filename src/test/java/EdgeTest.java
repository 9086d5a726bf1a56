import java.util.TreeMap;

/** The sentences of src/test/edges, each on its own; every promise must have some. */
public final class EdgeTest {
    private static final Check CHECK = new Check("EdgeTest");

    private EdgeTest() {
    }

    public static void main(String[] args) throws Exception {
        Face face = new Face(HedgehogLots.class);
        TreeMap<Integer, Integer> sentences = new TreeMap<>();
        for (Edge edge : Edge.all()) {
            sentences.merge(edge.promise, 1, Integer::sum);
            CHECK.promise(edge.promise);
            CHECK.due("wrong answers of: " + edge.words, told(edge, face), 0);
        }
        for (int promise = 1; promise <= 45; promise++) {
            CHECK.promise(promise);
            CHECK.holds("has sentences of its own", sentences.containsKey(promise));
        }
        CHECK.finish();
    }

    private static int told(Edge edge, Face face) {
        int number = 0;
        for (String wrong : edge.wrongs(face)) {
            System.out.println(wrong);
            number++;
        }
        return number;
    }
}
