/** Promises 19 to 24: runs. */
public final class RunTest {
    private static final Check CHECK = new Check("RunTest");

    public static void main(String[] args) {
        run();
        turns();
        way();
        wins();
        share();
        kindly();
        CHECK.finish();
    }

    private static void comes(HedgehogLots x, int h, int c, int... due) {
        for (int what = 0; what < 5; what++) {
            CHECK.due("run(" + h + ", " + c + ", " + what + ")", x.run(h, c, what), due[what]);
        }
    }

    private static void run() {
        CHECK.promise(19);
        HedgehogLots x = Told.slope();
        comes(x, 0, 3, 1, 1, 1, 2, 0);
        comes(x, 0, 2, 2, 2, 2, 2, 0);
        comes(x, 0, 0, -4, -4, 10, 0, 0);
        comes(x, 0, 5, -4, -4, 9, 0, 1);
        comes(x, 1, 3, 0, 0, 0, 1, 0);
        comes(x, 2, 3, -4, -4, 10, 1, 0);
        comes(x, 2, 2, -4, -4, 10, 2, 0);
        comes(x, 3, 3, -4, -4, 9, 1, 1);
        comes(x, 3, 2, -4, -4, 10, 1, 0);
        CHECK.due("run(4, 0, 0)", x.run(4, 0, 0), -1);
        CHECK.due("run(-1, 0, 0)", x.run(-1, 0, 0), -1);
        CHECK.due("run(0, 8, 0)", x.run(0, 8, 0), -1);
        CHECK.due("run(0, -1, 0)", x.run(0, -1, 0), -1);
        CHECK.due("run(0, 0, 5)", x.run(0, 0, 5), -1);
        CHECK.due("run(0, 0, -1)", x.run(0, 0, -1), -1);
        // In the last row: one rests, another has still speed left and is out.
        HedgehogLots last = Told.by("peg 90 0;plain 2;plain 3;slug 7;");
        comes(last, 0, 0, 0, 0, 9, 1, 0);
        comes(last, 1, 0, -4, -4, 10, 1, 0);
        comes(last, 1, 7, -4, -4, 0, 0, 1);
    }

    /** To which column one of a kind turns by a peg in a cell. */
    private static void turns(String kind, int cell, int to) {
        HedgehogLots x = Told.by("peg " + cell + " 0;" + kind + " 9;");
        CHECK.due("way of a " + kind + " one by " + cell, x.way(0, cell % 10, cell / 10 + 1), to);
    }

    private static void turns() {
        CHECK.promise(19);
        turns("plain", 3, 2);
        turns("plain", 13, 4);
        turns("plain", 20, 0);
        turns("plain", 37, 7);
        turns("fat", 3, 4);
        turns("fat", 13, 2);
        turns("fat", 27, 7);
        turns("fat", 10, 0);
        turns("young", 3, 4);
        turns("young", 13, 4);
        turns("young", 7, 7);
        turns("young", 17, 7);
        turns("boar", 3, 5);
        turns("boar", 13, 1);
        turns("boar", 86, 7);
        turns("boar", 7, 7);
        turns("boar", 11, 0);
        turns("boar", 12, 0);
        turns("boar", 10, 0);
    }

    private static void way() {
        CHECK.promise(20);
        HedgehogLots x = Told.slope();
        CHECK.due("way(0, 3, 0)", x.way(0, 3, 0), 3);
        CHECK.due("way(0, 3, 1)", x.way(0, 3, 1), 2);
        CHECK.due("way(0, 3, 2)", x.way(0, 3, 2), -4);
        CHECK.due("way(0, 2, 2)", x.way(0, 2, 2), 3);
        CHECK.due("way(3, 3, 9)", x.way(3, 3, 9), 5);
        CHECK.due("way(2, 2, 9)", x.way(2, 2, 9), 4);
        CHECK.due("way(2, 2, 10)", x.way(2, 2, 10), -1);
        CHECK.due("way(2, 2, -1)", x.way(2, 2, -1), -1);
        CHECK.due("way(4, 2, 0)", x.way(4, 2, 0), -1);
        CHECK.due("way(-1, 2, 0)", x.way(-1, 2, 0), -1);
        CHECK.due("way(0, 8, 0)", x.way(0, 8, 0), -1);
        CHECK.due("way(0, -1, 0)", x.way(0, -1, 0), -1);
    }

    private static void wins() {
        CHECK.promise(21);
        HedgehogLots x = Told.slope();
        CHECK.due("wins(0)", x.wins(0), 2);
        CHECK.due("wins(1)", x.wins(1), 1);
        CHECK.due("wins(2)", x.wins(2), 0);
        CHECK.due("wins(3)", x.wins(3), 0);
        CHECK.due("wins(4)", x.wins(4), -1);
        CHECK.due("wins(-1)", x.wins(-1), -1);
        CHECK.due("wins(-4)", x.wins(-4), -1);
        x.sue(1, 3);
        CHECK.due("wins(0), a suit more", x.wins(0), 18);
    }

    private static void share() {
        HedgehogLots x = Told.slope();
        HedgehogLots y = Told.by("peg 1 3;peg 2 1;peg 17 3;peg 95 3;plain 1;");
        CHECK.promise(22);
        CHECK.due("share(0, 0)", x.share(0, 0), 0);
        CHECK.due("share(0, 1)", x.share(0, 1), 1);
        CHECK.due("share(0, 2)", x.share(0, 2), 1);
        CHECK.due("share(0, 3)", y.share(0, 3), 3);
        CHECK.due("share(1, 3)", y.share(1, 3), -1);
        CHECK.due("share(-1, 3)", y.share(-1, 3), -1);
        CHECK.due("share(0, 4)", y.share(0, 4), -1);
        CHECK.due("share(0, -1)", y.share(0, -1), -1);
        CHECK.due("share(0, -4)", y.share(0, -4), -1);
        HedgehogLots edges = Told.by("peg 0 2;peg 97 2;fat 1;");
        CHECK.due("share(0, 2), the columns at the edges", edges.share(0, 2), 2);
        CHECK.promise(23);
        CHECK.due("first(0, 2), column 0", edges.first(0, 2), 0);
        CHECK.due("first(0, 0)", x.first(0, 0), -4);
        CHECK.due("first(0, 1)", x.first(0, 1), 3);
        CHECK.due("first(0, 2)", x.first(0, 2), 2);
        CHECK.due("first(0, 3)", y.first(0, 3), 1);
        CHECK.due("first(1, 3)", y.first(1, 3), -1);
        CHECK.due("first(-1, 3)", y.first(-1, 3), -1);
        CHECK.due("first(0, 4)", y.first(0, 4), -1);
        CHECK.due("first(0, -1)", y.first(0, -1), -1);
        CHECK.due("first(0, -4)", y.first(0, -4), -1);
    }

    private static void kindly() {
        CHECK.promise(24);
        // With speed 4 from column 3 a plain one rests on peg 1, a boar on peg 0, a fat and a young one come out.
        HedgehogLots x = Told.slope();
        CHECK.due("kindly(0, 3, 0)", x.kindly(0, 3, 0), 8);
        CHECK.due("kindly(0, 3, 1)", x.kindly(0, 3, 1), 1);
        CHECK.due("kindly(0, 3, 2)", x.kindly(0, 3, 2), 0);
        // With speed 3 all but the young one: plain on peg 1, fat and boar on peg 0.
        CHECK.due("kindly(1, 3, 0)", x.kindly(1, 3, 0), 10);
        CHECK.due("kindly(4, 3, 0)", x.kindly(4, 3, 0), -1);
        CHECK.due("kindly(-1, 3, 0)", x.kindly(-1, 3, 0), -1);
        CHECK.due("kindly(0, 8, 0)", x.kindly(0, 8, 0), -1);
        CHECK.due("kindly(0, -1, 0)", x.kindly(0, -1, 0), -1);
        CHECK.due("kindly(0, 3, 4)", x.kindly(0, 3, 4), -1);
        CHECK.due("kindly(0, 3, -1)", x.kindly(0, 3, -1), -1);
        CHECK.due("kindly(0, 3, -4)", x.kindly(0, 3, -4), -1);
        CHECK.due("hedgehog(0, 0)", x.hedgehog(0, 0), 0);
    }
}
