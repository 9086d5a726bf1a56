import java.util.List;

/**
 * Runs of 512 calls on one object, seeded, put to the class and to the model: changes, then runs and what is best,
 * then what is SEEN, then IMAGES kept and brought back, then texts that are not taken and that are, then SHEETS
 * read onto THE SLOPE; behind each part all that there is is looked at.
 */
public final class LongRunTest {
    private static final String CHANGES = "shift ic,rag ik,alter hqv,drive ck,lay c,clear n,sue hC,drop n";
    private static final String RUNS = "run hC5,way hCR,wins k,share hk,first hk,kindly hCk,rule 6,luck VhCk2,mean VhC2";
    private static final String BEST = "place k2,move i2,bribe k2,need hC,swap k2,pull k2,ask h2,drift xm2";

    private final Both both;

    private LongRunTest(Both both) {
        this.both = both;
    }

    public static void main(String[] args) {
        int rounds = args.length > 0 ? Integer.parseInt(args[0]) : 1500;
        Check check = new Check("LongRunTest");
        for (int seed = 1; seed <= rounds; seed++) {
            go(new Both(seed, check));
        }
        check.finish();
    }

    /** 512 calls on one object. */
    static void go(Both both) {
        new LongRunTest(both).go();
    }

    private void go() {
        both.putText(both.lines());
        some(CHANGES, 12);
        some(RUNS, 8);
        best();
        seen();
        images();
        texts();
        sheets();
        while (both.left() > 0) {
            some(CHANGES, 2);
            some(RUNS, 2);
            some(BEST, 2);
            look();
        }
    }

    private void some(String list, int times) {
        String[] calls = list.split(",");
        for (int i = 0; i < times; i++) {
            String[] parts = calls[both.random.nextInt(calls.length)].split(" ");
            both.putSome(parts[0], parts[1]);
        }
    }

    /** What is told to be best is done, and is asked again. */
    private void best() {
        int k = both.random.nextInt(4);
        int cell = (int) both.put("place", k, 0);
        both.put("place", k, 1);
        both.put("drive", cell, k);
        both.put("wins", k);
        both.put("move", 0, 0);
        both.put("shift", 0, (int) both.put("move", 0, 0));
        both.put("wins", k);
        both.put("lay", (int) both.put("bribe", k, 0));
        both.put("bribe", k, 1);
        both.put("rule", 5);
        both.put("alter", 0, 1, (int) both.put("need", 0, both.random.nextInt(8)));
        some(BEST, 6);
        some(RUNS, 4);
    }

    /** What truly comes of a run is told, now and then something else; then what is asked next. */
    private void seen() {
        for (int i = 0; i < 5; i++) {
            int h = both.random.nextInt(2);
            int column = (int) both.put("ask", h, 0);
            int from = column < 0 || both.random.nextInt(3) == 0 ? both.random.nextInt(8) : column;
            int rest = (int) both.put("run", h, from, 0);
            both.put("see", h, from, both.random.nextInt(6) == 0 ? both.random.nextInt(7) : rest < 0 ? 9 : rest);
            both.put("kinds", h);
            both.put("speeds", h);
            both.put("ask", h, 1);
        }
        both.put("forget", both.random.nextInt(4));
        some("kinds h,speeds h,alter hqv,kinds h,speeds h", 6);
    }

    private void images() {
        both.put("keep", 0);
        some(CHANGES, 6);
        both.put("keep", 1);
        some(CHANGES, 4);
        both.put("back", both.random.nextInt(2));
        look();
        some(BEST, 2);
        some(CHANGES, 3);
        some("keep j,back j,back j", 2);
        both.put("back", both.random.nextInt(2));
        some(RUNS, 3);
    }

    /** One that is mostly not taken, and short ones that are. */
    private void texts() {
        String text = both.lines();
        both.putText(both.spoiled(text.substring(0, Math.min(40, text.length()))));
        both.put("count", 1);
        both.put("back", 0);
        both.put("kinds", 0);
        both.put("sheet", 1, 0, 8);
        some("write 2Iw", 4);
        if (both.random.nextBoolean()) {
            both.putText("fat 3;plain 4;suit 0 3;suit 1 4;");
            both.put("count", 0);
            both.put("back", 1);
        }
    }

    /** Three pegs on a sheet of some lane; some of them may be where there is one. */
    private void sheets() {
        int lane = both.random.nextInt(3);
        both.put("sheet", 2, lane, 6);
        for (int i = 0; i < 3; i++) {
            both.put("write", 2, 2 * i, both.cell() + both.pick(0, 0, 0, 256, 65536));
            both.put("write", 2, 2 * i + 1, both.random.nextInt(4));
        }
        int there = (int) both.put("rule", 0);
        for (int n : List.of(2, 1, 3, 4)) {
            both.put("read", 2, both.pick(lane, lane, lane, both.random.nextInt(3)), both.pick(0, 2, 4, 1), n);
            both.put("torn");
            both.put("rule", 0);
        }
        both.put("peg", there, 0);
        some("read SLfr,torn -,write SIw,sheet SLN,count 6", 5);
        some(RUNS, 4);
    }

    /** All that there is. */
    private void look() {
        for (int what = 0; what < 6; what++) {
            both.put("rule", what);
            both.put("count", what);
        }
        for (int i = 0; i < 7; i++) {
            both.put("peg", i, both.random.nextInt(3));
            both.put("suit", i, both.random.nextInt(3));
        }
        for (int i = 0; i < 4; i++) {
            both.put("slug", i);
            both.put("hedgehog", i, both.random.nextInt(4));
        }
    }
}
