/** Promise 38: by a seed. From seed 1 on are got 16838, 5758, 10113, 17515, 31051 (the rand() of ANSI C). */
public final class DriftTest {
    private static final Check CHECK = new Check("DriftTest");

    public static void main(String[] args) {
        CHECK.promise(38);
        wrong();
        columns();
        moves();
        hedgehogs();
        CHECK.finish();
    }

    private static void due(String text, int seed, int n, int rests, int onRagZero) {
        HedgehogLots x = Told.by(text);
        String before = Told.all(x);
        CHECK.due(text + " drift(" + seed + ", " + n + ", 0)", x.drift(seed, n, 0), rests);
        CHECK.due(text + " drift(" + seed + ", " + n + ", 1)", x.drift(seed, n, 1), onRagZero);
        CHECK.holds("nothing is changed", Told.all(x).equals(before));
    }

    private static void wrong() {
        HedgehogLots x = new HedgehogLots();
        CHECK.due("drift(1, 1, 0), no hedgehogs", x.drift(1, 1, 0), -2);
        CHECK.due("drift(1, 0, 0), no hedgehogs", x.drift(1, 0, 0), -1);
        HedgehogLots y = Told.slope();
        CHECK.due("drift(1, 0, 0)", y.drift(1, 0, 0), -1);
        CHECK.due("drift(1, 61, 0)", y.drift(1, 61, 0), -1);
        CHECK.due("drift(1, -1, 0)", y.drift(1, -1, 0), -1);
        CHECK.due("drift(1, 1, 2)", y.drift(1, 1, 2), -1);
        CHECK.due("drift(1, 1, -1)", y.drift(1, 1, -1), -1);
    }

    /** They run from columns 1, 7, 0, 2, 2. */
    private static void columns() {
        due("peg 1 0;peg 7 1;plain 1;", 1, 1, 1, 1);
        due("peg 1 0;peg 7 1;plain 1;", 1, 2, 2, 1);
        due("peg 1 1;peg 7 0;peg 0 2;plain 1;", 1, 3, 3, 1);
        due("peg 3 0;peg 4 0;peg 5 0;plain 1;", 1, 5, 0, 0);
        // Seed 0: nought is got, from column 0, to cell 0.
        due("peg 0 0;plain 1;", 0, 1, 1, 1);
        due("peg 90 0;plain 1;", 0, 1, 1, 1);
        due("peg 90 1;plain 1;", 0, 1, 1, 0);
        // -2147483648 and 0 differ in the highest bit alone, which is never got.
        due("peg 0 0;plain 1;", Integer.MIN_VALUE, 1, 1, 1);
    }

    /** The fourth comes to rest in column 2, its peg is to go to cell 76; the fifth runs from column 2, too. */
    private static void moves() {
        due("peg 2 0;plain 1;", 1, 5, 1, 1);
        due("peg 2 0;plain 1;slug 76;", 1, 5, 2, 2);
        due("peg 2 0;plain 1;peg 76 1;", 1, 5, 2, 2);
        due("peg 2 0;plain 1;slug 75;slug 77;slug 66;slug 86;", 1, 5, 1, 1);
        // The first lifts peg 0 from column 1 to cell 64: it is then no more in the way of others there.
        due("peg 1 0;plain 1;peg 64 1;", 1, 1, 1, 1);
        due("peg 72 0;peg 1 3;plain 1;", 1, 5, 2, 1);
        // The second goes from 7 to 91, the fifth from 2 to 1: not to the cell beside it, which is not free.
        due("peg 7 0;slug 92;slug 90;plain 1;", 1, 12, 1, 1);
        due("peg 2 0;slug 76;slug 0;plain 1;", 1, 16, 3, 3);
        // From 3 to 0 (the 23rd), from 0 to 54 (the 39th), where it stays.
        due("peg 3 0;plain 1;", 1, 60, 2, 2);
    }

    /** Of two hedgehogs the third, fourth and fifth are the second one. */
    private static void hedgehogs() {
        due("peg 1 0;peg 0 1;plain 1;plain 9;", 1, 3, 1, 1);
        due("peg 1 0;peg 0 1;plain 9;plain 1;", 1, 3, 1, 0);
    }
}
