import java.util.ArrayList;
import java.util.List;

/** Random calls, seeded, put to the class and to the model; every answer must be the same. */
public final class ModelTest {
    /** Each call with the letters of its arguments, as Both reads them; then how often. */
    private static final String[] CALLS = {
        "end T 2", "fault - 1", "rule 6 3", "peg i3 4", "slug s 2", "hedgehog h4 4", "suit u3 4",
        "shift ic 6", "rag ik 4", "alter hqv 8", "drive ck 9", "lay c 5", "clear n 2", "sue hC 6", "drop n 1",
        "run hC5 8", "way hCR 4", "wins k 4", "share hk 4", "first hk 4", "kindly hCk 4",
        "place k2 4", "move i2 4", "bribe k2 4", "need hC 4", "swap k2 5", "pull k2 5",
        "luck VhCk2 5", "mean VhC2 5", "see hCp 4", "forget n 2", "kinds h 4", "speeds h 4", "ask h2 5",
        "drift xm2 3", "keep j 2", "back j 2", "sheet SLN 3", "write SIw 8", "read SLfr 5", "torn - 2",
        "count 6 3",
    };

    private final Both both;

    private ModelTest(Both both) {
        this.both = both;
    }

    public static void main(String[] args) {
        int rounds = args.length > 0 ? Integer.parseInt(args[0]) : 3000;
        Check check = new Check("ModelTest");
        for (int seed = 1; seed <= rounds; seed++) {
            go(new Both(seed, check));
        }
        check.finish();
    }

    /** 512 calls on one object. */
    static void go(Both both) {
        new ModelTest(both).go();
    }

    private void go() {
        List<String[]> calls = new ArrayList<>();
        for (String line : CALLS) {
            String[] parts = line.split(" ");
            for (int i = Integer.parseInt(parts[2]); i > 0; i--) {
                calls.add(parts);
            }
        }
        putText();
        while (both.left() > 0) {
            if (both.random.nextInt(30) == 0) {
                putText();
            }
            String[] parts = calls.get(both.random.nextInt(calls.size()));
            both.putSome(parts[0], parts[1]);
        }
    }

    private void putText() {
        String text = both.random.nextInt(8) == 0 ? both.jumble() : both.lines();
        if (both.random.nextInt(4) == 0 && !text.isEmpty()) {
            text = both.spoiled(text);
        }
        if (both.random.nextInt(3) != 0) {
            both.put("end", 0);
        }
        if (both.random.nextInt(20) == 0) {
            both.put("feed", both.pick(-1, 128, Integer.MIN_VALUE, Integer.MAX_VALUE));
        }
        both.putText(text);
    }
}
