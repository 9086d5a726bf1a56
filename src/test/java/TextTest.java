/** Promises 1 to 10: the text, what there is. */
public final class TextTest {
    private static final Check CHECK = new Check("TextTest");

    public static void main(String[] args) {
        newObject();
        feed();
        end();
        texts();
        faults();
        firstFault();
        takenText();
        rule();
        peg();
        slug();
        hedgehog();
        suit();
        constants();
        CHECK.finish();
    }

    private static void constants() {
        CHECK.due("BAD", HedgehogLots.BAD, -1);
        CHECK.due("STATE", HedgehogLots.STATE, -2);
        CHECK.due("FULL", HedgehogLots.FULL, -3);
        CHECK.due("NONE", HedgehogLots.NONE, -4);
    }

    private static void newObject() {
        CHECK.promise(1);
        HedgehogLots x = new HedgehogLots();
        for (int what = 0; what < 6; what++) {
            CHECK.due("rule(" + what + ")", x.rule(what), 0);
            CHECK.due("count(" + what + ")", x.count(what), what == 3 ? -4 : 0);
        }
        CHECK.due("fault()", x.fault(), 0);
        CHECK.due("torn()", x.torn(), 0);
        CHECK.due("back(0)", x.back(0), -2);
        for (int k = 0; k < 4; k++) {
            CHECK.due("write(" + k + ", 0, 0)", x.write(k, 0, 0), -11);
        }
        Told.slope();
        CHECK.due("rule(0), another having been told", x.rule(0), 0);
    }

    private static void feed() {
        CHECK.promise(2);
        HedgehogLots x = new HedgehogLots();
        CHECK.due("feed(-1)", x.feed(-1), -1);
        CHECK.due("feed(128)", x.feed(128), -1);
        CHECK.due("feed(0)", x.feed(0), 1);
        CHECK.due("feed(127)", x.feed(127), 2);
        for (int i = 3; i <= 160; i++) {
            CHECK.due("feed(32)", x.feed(32), i);
        }
        CHECK.due("feed(32), full", x.feed(32), -3);
        CHECK.due("feed(128), full", x.feed(128), -1);
        CHECK.due("count(2)", x.count(2), 160);
    }

    private static void end() {
        CHECK.promise(3);
        HedgehogLots x = new HedgehogLots();
        CHECK.due("end(0)", x.end(0), 0);
        CHECK.due("end(1)", x.end(1), -1);
        for (char c : "fat 1;x".toCharArray()) {
            x.feed(c);
        }
        CHECK.due("end(8)", x.end(8), -1);
        CHECK.due("end(-1)", x.end(-1), -1);
        CHECK.due("end(7)", x.end(7), 7);
        CHECK.due("end(6)", x.end(6), 7);
        CHECK.due("count(2)", x.count(2), 6);
        CHECK.due("text(), the x being gone", x.text(), 1);
        CHECK.due("end(0), the tape being empty", x.end(0), 0);
    }

    private static void texts() {
        CHECK.promise(4);
        taken("", 0);
        taken("    ", 0);
        taken(Told.SLOPE, 12);
        taken("peg3 0;peg 12 1;", 2);
        taken("  peg   3   0  ;  slug   12;fat9 ;  ", 3);
        taken("peg00 3;slug01;fat09;suit00 07;", 4);
        taken("suit 1 0;fat 1;fat 1;", 3);
        taken("peg 97 3;peg 0 0;slug 90;slug 7;", 4);
        taken("peg0 0;peg1 0;peg2 0;peg3 0;peg4 0;peg5 0;peg6 0;slug10;slug11;slug12;slug13;fat1;fat1;fat1;fat1;"
            + "suit0 0;suit0 0;suit0 0;suit0 0;suit0 0;suit3 7;", 21);
        HedgehogLots x = new HedgehogLots();
        Told.put(x, "fat 5;");
        CHECK.due("count(2) behind a text", x.count(2), 0);
        Told.put(x, "fat 55;");
        CHECK.due("count(2) behind a fault", x.count(2), 0);
        CHECK.due("hedgehog(0, 1) behind a fault", x.hedgehog(0, 1), 5);
    }

    private static void taken(String text, int lines) {
        HedgehogLots x = new HedgehogLots();
        CHECK.due("text() of '" + text + "'", Told.put(x, text), lines);
        CHECK.due("fault() of '" + text + "'", x.fault(), 0);
    }

    private static void faulty(String text, int fault, int place) {
        HedgehogLots x = Told.slope();
        x.see(0, 0, 9);
        x.keep(1);
        String before = Told.all(x);
        CHECK.due("text() of '" + text + "'", Told.put(x, text), -10 - place);
        CHECK.due("fault() of '" + text + "'", x.fault(), fault);
        CHECK.due("fault(), once more", x.fault(), fault);
        Told.put(x, "$");
        CHECK.holds("what was told stays, of '" + text + "'", sameBut(Told.all(x), before));
    }

    /** The last number is that of fault(). */
    private static boolean sameBut(String a, String b) {
        return a.substring(0, a.lastIndexOf(' ')).equals(b.substring(0, b.lastIndexOf(' ')));
    }

    private static void faults() {
        CHECK.promise(5);
        for (char c : new char[] {0, 9, 10, 31, 33, 47, 58, 60, 64, 'A', 'Z', 94, 96, 123, 127}) {
            faulty("fat 1;" + c, 1, 6);
            faulty("fat " + c, 1, 4);
            faulty("fa" + c, 2, 0);
        }
        faulty("peg 100 1;", 1, 4);
        faulty("peg 1 001;", 1, 6);
        faulty("  123", 1, 2);
        faulty("post 1 1;", 2, 0);
        faulty("pe 1 1;", 2, 0);
        faulty("pegs 1 1;", 2, 0);
        faulty("pet 1 1;", 2, 0);
        faulty("xeg 1 1;", 2, 0);
        faulty("a", 2, 0);
        faulty("z", 2, 0);
        faulty("fatz 1;", 2, 0);
        faulty("fata 1;", 2, 0);
        faulty("peg peg;", 2, 4);
        faulty("fat 1;;", 2, 6);
        faulty("fat 1;1", 2, 6);
        faulty("fat 1 peg", 2, 6);
        faulty("fat ;", 2, 4);
        faulty("fat", 2, 3);
        faulty("fat  ", 2, 5);
        faulty("peg 1 2", 2, 7);
        faulty("peg 1", 2, 5);
        faulty("slug 1 1;", 2, 7);
        faulty("suit 0;", 2, 6);
        faulty("peg 8 1;", 3, 4);
        faulty("peg 49 1;", 3, 4);
        faulty("slug 98;", 3, 5);
        faulty("slug 08;", 3, 5);
        faulty("peg 1 4;", 3, 6);
        faulty("fat 0;", 3, 4);
        faulty("fat 10;", 3, 4);
        faulty("suit 4 0;", 3, 5);
        faulty("suit 3 8;", 3, 7);
        faulty("suit 3 10;", 3, 7);
        faulty("peg 1 1;peg 01 2;", 4, 12);
        faulty("peg 1 1;slug 1;", 4, 13);
        faulty("slug 1;slug 1;", 4, 12);
        faulty("slug 1;peg 1 0;", 4, 11);
        faulty("peg0 0;peg1 0;peg2 0;peg3 0;peg4 0;peg5 0;peg6 0; peg7 0;", 5, 50);
        faulty("slug0;slug1;slug2;slug3;slug4;", 5, 24);
        faulty("fat1;plain1;boar1;young1;fat1;", 5, 25);
        faulty("suit0 0;suit0 0;suit0 0;suit0 0;suit0 0;suit0 0;suit0 0;fat1;", 5, 48);
        faulty("suit 0 0;", 6, 9);
        faulty("fat 1;suit 1 0;  ", 6, 17);
        faulty("fat 1;fat 1;suit 0 0;suit 2 0;suit 3 0;", 6, 39);
    }

    private static void firstFault() {
        CHECK.promise(5);
        faulty("fat 1;100", 1, 6);
        faulty("fat 1 100", 1, 6);
        faulty("fat 0$", 3, 4);
        faulty("peg 1 1;peg 1 $", 4, 12);
        faulty("peg 9 $", 3, 4);
        faulty("slug0;slug1;slug2;slug3;slug$", 5, 24);
        faulty("suit 0 0;$", 1, 9);
        faulty("suit 0 0;fat", 2, 12);
        HedgehogLots x = new HedgehogLots();
        Told.put(x, "$");
        CHECK.due("fault()", x.fault(), 1);
        Told.put(x, "");
        CHECK.due("fault() of a text that was taken", x.fault(), 0);
    }

    private static void takenText() {
        CHECK.promise(4);
        HedgehogLots x = Told.slope();
        x.see(0, 0, 9);
        x.keep(0);
        x.keep(1);
        x.sheet(0, 1, 4);
        CHECK.due("text() of a peg", Told.put(x, "peg 44 2;"), 1);
        CHECK.due("rule(0)", x.rule(0), 1);
        CHECK.due("rule(1)", x.rule(1), 0);
        CHECK.due("rule(2)", x.rule(2), 0);
        CHECK.due("rule(3)", x.rule(3), 0);
        CHECK.due("lay(95), where a slug was", x.lay(95), 1);
        CHECK.due("drive(3, 0), where a peg was", x.drive(3, 0), 2);
        CHECK.due("drive(44, 0)", x.drive(44, 0), -2);
        CHECK.due("count(0)", x.count(0), 0);
        CHECK.due("count(1)", x.count(1), 0);
        CHECK.due("back(0)", x.back(0), -2);
        CHECK.due("back(1)", x.back(1), -2);
        CHECK.due("count(3)", x.count(3), 4);
    }

    private static void rule() {
        CHECK.promise(6);
        // Suit 0 is won by 1, suit 1 by 0, in suit 2 the boar opens, in suit 3 the young one is out.
        HedgehogLots x = Told.slope();
        CHECK.due("rule(0)", x.rule(0), 3);
        CHECK.due("rule(1)", x.rule(1), 1);
        CHECK.due("rule(2)", x.rule(2), 4);
        CHECK.due("rule(3)", x.rule(3), 4);
        CHECK.due("rule(4)", x.rule(4), 3);
        CHECK.due("rule(5)", x.rule(5), 4);
        CHECK.due("rule(6)", x.rule(6), -1);
        CHECK.due("rule(-1)", x.rule(-1), -1);
        HedgehogLots opens = Told.by("slug 1;fat 1;suit 0 1;suit 0 2;suit 0 1;");
        CHECK.due("rule(5), the first opens", opens.rule(5), 5);
        CHECK.due("rule(4), none rests", opens.rule(4), 0);
    }

    private static void peg() {
        CHECK.promise(7);
        HedgehogLots x = Told.slope();
        int[][] due = {{3, 0, 2}, {12, 1, 1}, {23, 2, 0}};
        for (int i = 0; i < 3; i++) {
            for (int what = 0; what < 3; what++) {
                CHECK.due("peg(" + i + ", " + what + ")", x.peg(i, what), due[i][what]);
            }
        }
        CHECK.due("peg(3, 0)", x.peg(3, 0), -1);
        CHECK.due("peg(-1, 0)", x.peg(-1, 0), -1);
        CHECK.due("peg(0, 3)", x.peg(0, 3), -1);
        CHECK.due("peg(0, -1)", x.peg(0, -1), -1);
    }

    private static void slug() {
        CHECK.promise(8);
        HedgehogLots x = Told.by("slug 40;slug 7;");
        CHECK.due("slug(0)", x.slug(0), 40);
        CHECK.due("slug(1)", x.slug(1), 7);
        CHECK.due("slug(2)", x.slug(2), -1);
        CHECK.due("slug(-1)", x.slug(-1), -1);
    }

    private static void hedgehog() {
        CHECK.promise(9);
        HedgehogLots x = Told.slope();
        int[][] due = {{0, 4, 2, 12}, {1, 3, 3, 12}, {2, 9, 1, 0}, {3, 9, 6, 0}};
        for (int h = 0; h < 4; h++) {
            for (int what = 0; what < 4; what++) {
                CHECK.due("hedgehog(" + h + ", " + what + ")", x.hedgehog(h, what), due[h][what]);
            }
        }
        HedgehogLots edges = Told.by("peg 0 0;peg 97 0;fat 1;");
        CHECK.due("hedgehog(0, 3), the columns at the edges", edges.hedgehog(0, 3), 129);
        CHECK.due("hedgehog(4, 0)", x.hedgehog(4, 0), -1);
        CHECK.due("hedgehog(-1, 0)", x.hedgehog(-1, 0), -1);
        CHECK.due("hedgehog(0, 4)", x.hedgehog(0, 4), -1);
        CHECK.due("hedgehog(0, -1)", x.hedgehog(0, -1), -1);
    }

    private static void suit() {
        CHECK.promise(10);
        HedgehogLots x = Told.slope();
        int[][] due = {{0, 3, 1}, {1, 3, 0}, {3, 3, -4}, {2, 2, -4}};
        for (int i = 0; i < 4; i++) {
            for (int what = 0; what < 3; what++) {
                CHECK.due("suit(" + i + ", " + what + ")", x.suit(i, what), due[i][what]);
            }
        }
        CHECK.due("suit(4, 0)", x.suit(4, 0), -1);
        CHECK.due("suit(-1, 0)", x.suit(-1, 0), -1);
        CHECK.due("suit(0, 3)", x.suit(0, 3), -1);
        CHECK.due("suit(0, -1)", x.suit(0, -1), -1);
    }
}
