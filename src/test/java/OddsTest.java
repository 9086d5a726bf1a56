/** Promises 31 and 32: turns the other way. */
public final class OddsTest {
    private static final Check CHECK = new Check("OddsTest");

    public static void main(String[] args) {
        luck();
        mean();
        deep();
        CHECK.finish();
    }

    private static void luck(HedgehogLots x, int v, int c, int k, long top, long bottom) {
        CHECK.due("luck(" + v + ", 0, " + c + ", " + k + ", 0)", x.luck(v, 0, c, k, 0), top);
        CHECK.due("luck(" + v + ", 0, " + c + ", " + k + ", 1)", x.luck(v, 0, c, k, 1), bottom);
    }

    private static void mean(HedgehogLots x, int v, int c, long top, long bottom) {
        CHECK.due("mean(" + v + ", 0, " + c + ", 0)", x.mean(v, 0, c, 0), top);
        CHECK.due("mean(" + v + ", 0, " + c + ", 1)", x.mean(v, 0, c, 1), bottom);
    }

    private static void luck() {
        CHECK.promise(31);
        // From column 3 a plain one turns to 24, the other way to 22.
        HedgehogLots x = Told.by("peg 13 0;peg 22 1;peg 24 2;plain 3;slug 7;");
        luck(x, 0, 3, 2, 1, 1);
        luck(x, 0, 3, 1, 0, 1);
        luck(x, 3, 3, 2, 7, 10);
        luck(x, 3, 3, 1, 3, 10);
        luck(x, 3, 3, 0, 0, 1);
        luck(x, 5, 3, 1, 1, 2);
        luck(x, 8, 3, 1, 4, 5);
        luck(x, 10, 3, 1, 1, 1);
        luck(x, 10, 3, 2, 0, 1);
        luck(x, 3, 2, 1, 0, 1);
        luck(x, 3, 7, 0, 0, 1);
        CHECK.due("luck(-1, 0, 3, 0, 0)", x.luck(-1, 0, 3, 0, 0), -1);
        CHECK.due("luck(11, 0, 3, 0, 0)", x.luck(11, 0, 3, 0, 0), -1);
        CHECK.due("luck(3, 1, 3, 0, 0)", x.luck(3, 1, 3, 0, 0), -1);
        CHECK.due("luck(3, -1, 3, 0, 0)", x.luck(3, -1, 3, 0, 0), -1);
        CHECK.due("luck(3, 0, 8, 0, 0)", x.luck(3, 0, 8, 0, 0), -1);
        CHECK.due("luck(3, 0, -1, 0, 0)", x.luck(3, 0, -1, 0, 0), -1);
        CHECK.due("luck(3, 0, 3, 4, 0)", x.luck(3, 0, 3, 4, 0), -1);
        CHECK.due("luck(3, 0, 3, -1, 0)", x.luck(3, 0, 3, -1, 0), -1);
        CHECK.due("luck(3, 0, 3, 0, 2)", x.luck(3, 0, 3, 0, 2), -1);
        CHECK.due("luck(3, 0, 3, 0, -1)", x.luck(3, 0, 3, 0, -1), -1);
        // Two of one rag are won together; a slug takes its part.
        x.rag(1, 2);
        luck(x, 3, 3, 2, 1, 1);
        x.shift(1, 97);
        x.lay(22);
        luck(x, 3, 3, 2, 7, 10);
        // At the edge the other way may be the same column: a boar from 1 in row 1.
        HedgehogLots edge = Told.by("peg 11 0;peg 20 1;peg 23 2;boar 7;");
        luck(edge, 2, 1, 1, 4, 5);
        luck(edge, 2, 1, 2, 1, 5);
        // One speed left, nothing in its way for long.
        HedgehogLots slow = Told.by("peg 93 1;plain 1;");
        luck(slow, 4, 3, 1, 1, 1);
        luck(slow, 4, 2, 1, 0, 1);
        HedgehogLots young = Told.by("peg 7 0;peg 16 1;peg 17 2;young 2;");
        luck(young, 4, 7, 2, 3, 5);
        luck(young, 4, 7, 1, 2, 5);
    }

    private static void mean() {
        CHECK.promise(32);
        HedgehogLots x = Told.by("peg 13 0;peg 24 2;plain 3;slug 7;");
        mean(x, 0, 3, 2, 1);
        mean(x, 3, 3, 17, 10);
        mean(x, 10, 3, 1, 1);
        mean(x, 3, 0, 0, 1);
        mean(x, 3, 7, 0, 1);
        mean(x, 3, 4, 1, 1);
        CHECK.due("mean(-1, 0, 3, 0)", x.mean(-1, 0, 3, 0), -1);
        CHECK.due("mean(11, 0, 3, 0)", x.mean(11, 0, 3, 0), -1);
        CHECK.due("mean(3, 1, 3, 0)", x.mean(3, 1, 3, 0), -1);
        CHECK.due("mean(3, -1, 3, 0)", x.mean(3, -1, 3, 0), -1);
        CHECK.due("mean(3, 0, 8, 0)", x.mean(3, 0, 8, 0), -1);
        CHECK.due("mean(3, 0, -1, 0)", x.mean(3, 0, -1, 0), -1);
        CHECK.due("mean(3, 0, 3, 2)", x.mean(3, 0, 3, 2), -1);
        CHECK.due("mean(3, 0, 3, -1)", x.mean(3, 0, 3, -1), -1);
    }

    /** A young one that goes down the last column meets the seven pegs there, if it never turns away. */
    private static void deep() {
        CHECK.promise(31);
        HedgehogLots x = Told.by("peg 7 0;peg 17 0;peg 27 0;peg 37 0;peg 47 0;peg 57 0;peg 67 3;young 7;");
        luck(x, 1, 7, 3, 531441, 1000000);
        luck(x, 3, 7, 3, 117649, 1000000);
        luck(x, 3, 7, 0, 0, 1);
        CHECK.promise(32);
        mean(x, 1, 7, 5217031, 1000000);
        mean(x, 5, 7, 127, 64);
    }
}
