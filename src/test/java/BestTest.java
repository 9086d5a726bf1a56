/** Promises 25 to 30: what is best. */
public final class BestTest {
    private static final Check CHECK = new Check("BestTest");

    public static void main(String[] args) {
        place();
        move();
        bribe();
        need();
        swap();
        pull();
        nothingChanges();
        CHECK.finish();
    }

    private static void place() {
        CHECK.promise(25);
        // The boar of suit 2 comes down column 5 with speed 3 left; no other suit can be won by a peg more.
        HedgehogLots x = Told.slope();
        CHECK.due("place(3, 0)", x.place(3, 0), 15);
        CHECK.due("place(3, 1)", x.place(3, 1), 1);
        CHECK.due("place(0, 0)", x.place(0, 0), 15);
        CHECK.due("place(0, 1)", x.place(0, 1), 2);
        CHECK.due("place(4, 0)", x.place(4, 0), -1);
        CHECK.due("place(-1, 0)", x.place(-1, 0), -1);
        CHECK.due("place(-4, 0)", x.place(-4, 0), -1);
        CHECK.due("place(0, 2)", x.place(0, 2), -1);
        CHECK.due("place(0, -1)", x.place(0, -1), -1);
        for (int c = 4; c < 8; c++) {
            x.drive(90 + c - (c == 5 ? 10 : 0), 3);
        }
        CHECK.due("place(0, 0), 7 pegs", x.place(0, 0), -3);
        CHECK.due("place(4, 0), 7 pegs", x.place(4, 0), -1);
        CHECK.due("place(0, 2), 7 pegs", x.place(0, 2), -1);
        HedgehogLots taken = Told.by("peg 0 0;slug 1;peg 2 0;");
        CHECK.due("place(0, 0), the first that is free", taken.place(0, 0), 3);
        CHECK.due("place(0, 1)", taken.place(0, 1), 0);
        HedgehogLots none = new HedgehogLots();
        CHECK.due("place(1, 0)", none.place(1, 0), 0);
        CHECK.due("place(1, 1)", none.place(1, 1), 0);
        // By 83 a plain one turns to 92 with 1 left; a peg above would turn it away.
        HedgehogLots last = Told.by("peg 83 0;plain 3;suit 0 3;");
        CHECK.due("place(2, 0), in the last row", last.place(2, 0), 92);
        CHECK.due("place(2, 1), in the last row", last.place(2, 1), 1);
        HedgehogLots end = Told.by("peg 7 0;fat 4;suit 0 7;slug 96;");
        CHECK.due("place(2, 0), turned at the edge", end.place(2, 0), 17);
    }

    private static void move() {
        CHECK.promise(26);
        HedgehogLots x = Told.slope();
        CHECK.due("move(0, 0), where it is", x.move(0, 0), 3);
        CHECK.due("move(0, 1)", x.move(0, 1), 1);
        CHECK.due("move(1, 0)", x.move(1, 0), 12);
        CHECK.due("move(2, 0)", x.move(2, 0), 15);
        CHECK.due("move(2, 1)", x.move(2, 1), 1);
        CHECK.due("move(3, 0)", x.move(3, 0), -1);
        CHECK.due("move(-1, 0)", x.move(-1, 0), -1);
        CHECK.due("move(0, 2)", x.move(0, 2), -1);
        CHECK.due("move(0, -1)", x.move(0, -1), -1);
        HedgehogLots y = Told.by("slug 0;peg 1 0;peg 97 1;");
        CHECK.due("move(1, 0), the first that is free", y.move(1, 0), 2);
        CHECK.due("move(1, 1)", y.move(1, 1), 0);
        CHECK.due("move(0, 0)", y.move(0, 0), 1);
        HedgehogLots last = Told.by("peg 83 0;peg 1 2;plain 3;suit 0 3;");
        CHECK.due("move(1, 0), to the last row", last.move(1, 0), 92);
        CHECK.due("move(1, 1), to the last row", last.move(1, 1), 1);
        CHECK.due("move(0, 0), all cells alike", Told.by("peg 97 0;").move(0, 0), 0);
        // The two suits of rag 0 can be won by one peg no more than where the ways meet: cell 13.
        HedgehogLots z = Told.by("peg 97 0;peg 2 3;young 2;young 1;suit 0 2;suit 1 3;");
        CHECK.due("move(0, 0)", z.move(0, 0), 13);
        CHECK.due("move(0, 1)", z.move(0, 1), 2);
    }

    private static void bribe() {
        CHECK.promise(27);
        HedgehogLots x = Told.by("peg 43 1;peg 44 2;plain 2;suit 0 3;suit 0 3;suit 0 4;");
        CHECK.due("bribe(0, 0)", x.bribe(0, 0), 3);
        CHECK.due("bribe(0, 1)", x.bribe(0, 1), 1);
        CHECK.due("bribe(1, 0)", x.bribe(1, 0), 4);
        CHECK.due("bribe(1, 1)", x.bribe(1, 1), 0);
        CHECK.due("bribe(2, 0)", x.bribe(2, 0), 3);
        CHECK.due("bribe(2, 1)", x.bribe(2, 1), 0);
        CHECK.due("bribe(4, 0)", x.bribe(4, 0), -1);
        CHECK.due("bribe(-1, 0)", x.bribe(-1, 0), -1);
        CHECK.due("bribe(0, 2)", x.bribe(0, 2), -1);
        CHECK.due("bribe(0, -1)", x.bribe(0, -1), -1);
        x.lay(0);
        x.lay(1);
        x.lay(2);
        CHECK.due("bribe(0, 0), 3 slugs", x.bribe(0, 0), 3);
        x.lay(7);
        CHECK.due("bribe(0, 0), 4 slugs", x.bribe(0, 0), -3);
        CHECK.due("bribe(4, 0), 4 slugs", x.bribe(4, 0), -1);
        HedgehogLots lost = Told.by("peg 3 1;plain 1;suit 0 3;suit 0 3;suit 0 3;suit 0 3;suit 0 3;suit 0 3;");
        CHECK.due("bribe(0, 0), all are lost", lost.bribe(0, 0), 0);
        CHECK.due("bribe(0, 1), all are lost", lost.bribe(0, 1), 6);
        HedgehogLots nought = Told.by("peg 40 1;plain 1;suit 0 0;");
        CHECK.due("bribe(0, 0), in cell 0", nought.bribe(0, 0), 0);
        CHECK.due("bribe(0, 1), in cell 0", nought.bribe(0, 1), 0);
        HedgehogLots y = Told.by("slug 0;peg 1 1;");
        CHECK.due("bribe(0, 0), the first that is free", y.bribe(0, 0), 2);
        CHECK.due("bribe(0, 1)", y.bribe(0, 1), 0);
    }

    private static void need() {
        CHECK.promise(28);
        HedgehogLots x = Told.slope();
        CHECK.due("need(0, 3)", x.need(0, 3), 7);
        CHECK.due("need(2, 2)", x.need(2, 2), 3);
        CHECK.due("need(3, 3), it opens", x.need(3, 3), -4);
        CHECK.due("need(3, 2)", x.need(3, 2), 7);
        CHECK.due("need(0, 0)", x.need(0, 0), 1);
        CHECK.due("need(0, 5)", x.need(0, 5), -4);
        CHECK.due("need(4, 0)", x.need(4, 0), -1);
        CHECK.due("need(-1, 0)", x.need(-1, 0), -1);
        CHECK.due("need(0, 8)", x.need(0, 8), -1);
        CHECK.due("need(0, -1)", x.need(0, -1), -1);
        CHECK.due("need(0, 3), four are met", Told.by("peg 3 0;peg 12 0;peg 23 0;peg 32 0;plain 1;").need(0, 3), 9);
        HedgehogLots y = Told.by("peg 7 0;peg 17 0;boar 1;fat 1;");
        CHECK.due("need(0, 7), 6 and 6 are too many", y.need(0, 7), -4);
        y.shift(0, 6);
        CHECK.due("need(1, 6)", y.need(1, 6), 7);
    }

    private static void swap() {
        CHECK.promise(29);
        // Hedgehog 0 rests on peg 0, the others go on to peg 1.
        HedgehogLots x = Told.by("peg 3 0;peg 14 1;fat 3;fat 4;suit 0 3;suit 0 3;suit 1 3;");
        CHECK.due("swap(0, 0)", x.swap(0, 0), -4);
        CHECK.due("swap(0, 1)", x.swap(0, 1), -4);
        CHECK.due("swap(1, 0)", x.swap(1, 0), 1);
        CHECK.due("swap(1, 1)", x.swap(1, 1), 2);
        CHECK.due("swap(2, 0), none wins less or more", x.swap(2, 0), -4);
        CHECK.due("swap(4, 0)", x.swap(4, 0), -1);
        CHECK.due("swap(-1, 0)", x.swap(-1, 0), -1);
        CHECK.due("swap(0, 2)", x.swap(0, 2), -1);
        CHECK.due("swap(0, -1)", x.swap(0, -1), -1);
        HedgehogLots y = Told.by("peg 3 0;peg 14 1;fat 4;fat 3;fat 5;fat 6;suit 1 3;suit 1 3;suit 0 3;");
        CHECK.due("swap(1, 0), all three", y.swap(1, 0), 12);
        CHECK.due("swap(1, 1), all three", y.swap(1, 1), 3);
        CHECK.due("swap(0, 0)", y.swap(0, 0), -4);
        HedgehogLots kinds = Told.by("peg 3 0;slug 4;slug 5;slug 2;young 5;boar 5;suit 0 3;");
        CHECK.due("swap(0, 0), kinds go with them", kinds.swap(0, 0), 1);
        CHECK.due("swap(0, 1), kinds go with them", kinds.swap(0, 1), 1);
        CHECK.due("hedgehog(0, 0)", kinds.hedgehog(0, 0), 2);
        CHECK.due("swap(0, 0), the kind of the first goes, too", Told.by("peg 3 0;boar 5;young 5;suit 1 3;").swap(0, 0), 1);
        HedgehogLots z = Told.by("peg 3 0;slug 4;fat 9;fat 9;fat 3;fat 3;suit 1 3;");
        CHECK.due("swap(0, 0), of 12 and 13 the least", z.swap(0, 0), 12);
    }

    private static void pull() {
        CHECK.promise(30);
        HedgehogLots x = Told.by("peg 3 0;peg 13 1;plain 1;suit 0 3;");
        CHECK.due("pull(0, 0)", x.pull(0, 0), -4);
        CHECK.due("pull(0, 1)", x.pull(0, 1), -4);
        CHECK.due("pull(1, 0)", x.pull(1, 0), 0);
        CHECK.due("pull(1, 1)", x.pull(1, 1), 1);
        CHECK.due("pull(2, 0)", x.pull(2, 0), -4);
        CHECK.due("pull(4, 0)", x.pull(4, 0), -1);
        CHECK.due("pull(-1, 0)", x.pull(-1, 0), -1);
        CHECK.due("pull(0, 2)", x.pull(0, 2), -1);
        CHECK.due("pull(0, -1)", x.pull(0, -1), -1);
        HedgehogLots y = Told.by("peg 97 2;peg 3 0;peg 13 1;peg 4 0;peg 14 1;plain 1;suit 0 3;suit 0 4;");
        CHECK.due("pull(1, 0), of 1 and 3 the first", y.pull(1, 0), 1);
        CHECK.due("pull(1, 1)", y.pull(1, 1), 1);
        HedgehogLots each = Told.by("peg 3 0;peg 13 0;peg 23 1;peg 97 2;plain 1;suit 0 3;");
        CHECK.due("pull(1, 0), one alone is pulled", each.pull(1, 0), -4);
        y.sue(0, 4);
        CHECK.due("pull(1, 0), two suits by 3", y.pull(1, 0), 3);
        CHECK.due("pull(1, 1), two suits by 3", y.pull(1, 1), 2);
    }

    private static void nothingChanges() {
        HedgehogLots x = Told.slope();
        String before = Told.all(x);
        for (int k = 0; k < 4; k++) {
            for (int what = 0; what < 2; what++) {
                x.place(k, what);
                x.move(k, what);
                x.bribe(k, what);
                x.need(k, what);
                x.swap(k, what);
                x.pull(k, what);
            }
        }
        CHECK.holds("nothing is changed by what is asked", Told.all(x).equals(before));
    }
}
