/** Promises 11 to 18: what is changed. */
public final class ChangeTest {
    private static final Check CHECK = new Check("ChangeTest");

    public static void main(String[] args) {
        shift();
        rag();
        alter();
        drive();
        lay();
        clear();
        sue();
        drop();
        CHECK.finish();
    }

    private static void shift() {
        CHECK.promise(11);
        HedgehogLots x = Told.slope();
        CHECK.due("shift(0, 12), a peg", x.shift(0, 12), -2);
        CHECK.due("shift(0, 95), a slug", x.shift(0, 95), -2);
        CHECK.due("shift(0, 3), its own", x.shift(0, 3), 3);
        CHECK.due("shift(0, 97)", x.shift(0, 97), 3);
        CHECK.due("peg(0, 0)", x.peg(0, 0), 97);
        CHECK.due("run(1, 3, 0), the cell 3 being free", x.run(1, 3, 0), 2);
        CHECK.due("run(1, 7, 0)", x.run(1, 7, 0), 0);
        CHECK.due("shift(1, 3), which became free", x.shift(1, 3), 12);
        CHECK.due("shift(2, 97), which became taken", x.shift(2, 97), -2);
        CHECK.due("shift(2, 0)", x.shift(2, 0), 23);
        for (int c : new int[] {-1, 8, 9, 18, 98, 99, 100, Integer.MIN_VALUE, Integer.MAX_VALUE}) {
            CHECK.due("shift(2, " + c + ")", x.shift(2, c), -1);
        }
        CHECK.due("shift(3, 3)", x.shift(3, 3), -1);
        CHECK.due("shift(-1, 50)", x.shift(-1, 50), -1);
        CHECK.due("peg(2, 0)", x.peg(2, 0), 0);
    }

    private static void rag() {
        CHECK.promise(12);
        HedgehogLots x = Told.slope();
        CHECK.due("rag(0, 3)", x.rag(0, 3), 0);
        CHECK.due("rag(0, 0)", x.rag(0, 0), 3);
        CHECK.due("rag(1, 2)", x.rag(1, 2), 1);
        CHECK.due("suit(0, 2)", x.suit(0, 2), 2);
        CHECK.due("rag(0, 4)", x.rag(0, 4), -1);
        CHECK.due("rag(0, -1)", x.rag(0, -1), -1);
        CHECK.due("rag(3, 0)", x.rag(3, 0), -1);
        CHECK.due("rag(-1, 0)", x.rag(-1, 0), -1);
        CHECK.due("peg(0, 1)", x.peg(0, 1), 0);
    }

    private static void alter() {
        CHECK.promise(13);
        HedgehogLots x = Told.slope();
        CHECK.due("alter(0, 0, 3)", x.alter(0, 0, 3), 0);
        CHECK.due("alter(0, 0, 0)", x.alter(0, 0, 0), 3);
        CHECK.due("alter(0, 1, 9)", x.alter(0, 1, 9), 4);
        CHECK.due("alter(0, 1, 1)", x.alter(0, 1, 1), 9);
        CHECK.due("suit(0, 2)", x.suit(0, 2), 0);
        CHECK.due("alter(0, 0, 4)", x.alter(0, 0, 4), -1);
        CHECK.due("alter(0, 0, -1)", x.alter(0, 0, -1), -1);
        CHECK.due("alter(0, 1, 0)", x.alter(0, 1, 0), -1);
        CHECK.due("alter(0, 1, 10)", x.alter(0, 1, 10), -1);
        CHECK.due("alter(0, 2, 1)", x.alter(0, 2, 1), -1);
        CHECK.due("alter(0, -1, 1)", x.alter(0, -1, 1), -1);
        CHECK.due("alter(4, 0, 1)", x.alter(4, 0, 1), -1);
        CHECK.due("alter(-1, 1, 1)", x.alter(-1, 1, 1), -1);
        CHECK.due("hedgehog(0, 0)", x.hedgehog(0, 0), 0);
        CHECK.due("hedgehog(0, 1)", x.hedgehog(0, 1), 1);
    }

    private static void drive() {
        CHECK.promise(14);
        HedgehogLots x = Told.slope();
        CHECK.due("drive(12, 0), a peg", x.drive(12, 0), -2);
        CHECK.due("drive(95, 0), a slug", x.drive(95, 0), -2);
        CHECK.due("drive(97, 3)", x.drive(97, 3), 4);
        CHECK.due("peg(3, 0)", x.peg(3, 0), 97);
        CHECK.due("peg(3, 1)", x.peg(3, 1), 3);
        CHECK.due("run(1, 7, 0)", x.run(1, 7, 0), 3);
        CHECK.due("drive(0, 0)", x.drive(0, 0), 5);
        CHECK.due("drive(1, 4)", x.drive(1, 4), -1);
        CHECK.due("drive(1, -1)", x.drive(1, -1), -1);
        CHECK.due("drive(8, 0)", x.drive(8, 0), -1);
        CHECK.due("drive(98, 0)", x.drive(98, 0), -1);
        CHECK.due("drive(100, 0)", x.drive(100, 0), -1);
        CHECK.due("drive(-1, 0)", x.drive(-1, 0), -1);
        CHECK.due("drive(1, 0)", x.drive(1, 0), 6);
        CHECK.due("drive(2, 0)", x.drive(2, 0), 7);
        CHECK.due("drive(4, 0), full", x.drive(4, 0), -3);
        CHECK.due("drive(2, 0), full, a peg", x.drive(2, 0), -2);
        CHECK.due("drive(2, 4), full, a peg", x.drive(2, 4), -1);
        CHECK.due("rule(0)", x.rule(0), 7);
    }

    private static void lay() {
        CHECK.promise(15);
        HedgehogLots x = Told.slope();
        CHECK.due("lay(12), a peg", x.lay(12), -2);
        CHECK.due("lay(95), a slug", x.lay(95), -2);
        CHECK.due("lay(90)", x.lay(90), 2);
        CHECK.due("slug(1)", x.slug(1), 90);
        CHECK.due("run(0, 0, 4)", x.run(0, 0, 4), 1);
        for (int c : new int[] {-1, 8, 19, 98, 100}) {
            CHECK.due("lay(" + c + ")", x.lay(c), -1);
        }
        CHECK.due("lay(0)", x.lay(0), 3);
        CHECK.due("lay(97)", x.lay(97), 4);
        CHECK.due("lay(1), full", x.lay(1), -3);
        CHECK.due("lay(97), full, a slug", x.lay(97), -2);
        CHECK.due("lay(98), full", x.lay(98), -1);
        CHECK.due("rule(1)", x.rule(1), 4);
    }

    private static void clear() {
        CHECK.promise(16);
        HedgehogLots x = Told.by("slug 5;slug 6;slug 7;fat 1;");
        CHECK.due("clear(4)", x.clear(4), -1);
        CHECK.due("clear(-1)", x.clear(-1), -1);
        CHECK.due("clear(3)", x.clear(3), 3);
        CHECK.due("clear(1)", x.clear(1), 3);
        CHECK.due("slug(0)", x.slug(0), 5);
        CHECK.due("slug(1)", x.slug(1), -1);
        CHECK.due("run(0, 5, 4)", x.run(0, 5, 4), 1);
        CHECK.due("run(0, 6, 4)", x.run(0, 6, 4), 0);
        CHECK.due("run(0, 7, 4)", x.run(0, 7, 4), 0);
        CHECK.due("drive(6, 0)", x.drive(6, 0), 1);
        CHECK.due("drive(5, 0)", x.drive(5, 0), -2);
        CHECK.due("clear(0)", x.clear(0), 1);
        CHECK.due("clear(0)", x.clear(0), 0);
        CHECK.due("clear(1)", x.clear(1), -1);
    }

    private static void sue() {
        CHECK.promise(17);
        HedgehogLots x = Told.slope();
        CHECK.due("sue(4, 0)", x.sue(4, 0), -1);
        CHECK.due("sue(-1, 0)", x.sue(-1, 0), -1);
        CHECK.due("sue(0, 8)", x.sue(0, 8), -1);
        CHECK.due("sue(0, -1)", x.sue(0, -1), -1);
        CHECK.due("sue(0, 2)", x.sue(0, 2), 5);
        CHECK.due("suit(4, 0)", x.suit(4, 0), 0);
        CHECK.due("suit(4, 1)", x.suit(4, 1), 2);
        CHECK.due("suit(4, 2)", x.suit(4, 2), 2);
        CHECK.due("sue(3, 7)", x.sue(3, 7), 6);
        CHECK.due("sue(3, 7), full", x.sue(3, 7), -3);
        CHECK.due("sue(3, 8), full", x.sue(3, 8), -1);
        CHECK.due("rule(3)", x.rule(3), 6);
    }

    private static void drop() {
        CHECK.promise(18);
        HedgehogLots x = Told.slope();
        CHECK.due("drop(5)", x.drop(5), -1);
        CHECK.due("drop(-1)", x.drop(-1), -1);
        CHECK.due("drop(4)", x.drop(4), 4);
        CHECK.due("drop(1)", x.drop(1), 4);
        CHECK.due("rule(4)", x.rule(4), 1);
        CHECK.due("suit(0, 1)", x.suit(0, 1), 3);
        CHECK.due("suit(1, 0)", x.suit(1, 0), -1);
        CHECK.due("sue(2, 6)", x.sue(2, 6), 2);
        CHECK.due("drop(0)", x.drop(0), 2);
        CHECK.due("drop(0)", x.drop(0), 0);
    }
}
