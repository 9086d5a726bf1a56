/** Promises 33 to 37: which it was. */
public final class SeenTest {
    private static final Check CHECK = new Check("SeenTest");

    public static void main(String[] args) {
        see();
        forget();
        kinds();
        speeds();
        ask();
        CHECK.finish();
    }

    private static void see() {
        CHECK.promise(33);
        HedgehogLots x = Told.slope();
        CHECK.due("see(4, 0, 0)", x.see(4, 0, 0), -1);
        CHECK.due("see(-1, 0, 0)", x.see(-1, 0, 0), -1);
        CHECK.due("see(0, 8, 0)", x.see(0, 8, 0), -1);
        CHECK.due("see(0, -1, 0)", x.see(0, -1, 0), -1);
        for (int i : new int[] {-1, -4, 7, 8, 10}) {
            CHECK.due("see(0, 0, " + i + ")", x.see(0, 0, i), -1);
        }
        CHECK.due("count(0)", x.count(0), 0);
        CHECK.due("see(0, 0, 9)", x.see(0, 0, 9), 1);
        CHECK.due("see(3, 7, 0)", x.see(3, 7, 0), 2);
        CHECK.due("see(0, 0, 6), a number that is as told", x.see(0, 0, 6), 3);
        x.see(0, 0, 9);
        x.see(0, 0, 9);
        CHECK.due("see(0, 0, 9)", x.see(0, 0, 9), 6);
        CHECK.due("see(0, 0, 9), full", x.see(0, 0, 9), -3);
        CHECK.due("see(0, 0, 8), full", x.see(0, 0, 8), -1);
        CHECK.due("count(0)", x.count(0), 6);
    }

    private static void forget() {
        CHECK.promise(34);
        HedgehogLots x = Told.slope();
        x.see(0, 3, 1);
        x.see(0, 3, 2);
        CHECK.due("forget(3)", x.forget(3), -1);
        CHECK.due("forget(-1)", x.forget(-1), -1);
        CHECK.due("forget(2)", x.forget(2), 2);
        CHECK.due("kinds(0)", x.kinds(0), 0);
        CHECK.due("forget(1)", x.forget(1), 2);
        CHECK.due("kinds(0), by the first alone", x.kinds(0), 1);
        CHECK.due("forget(0)", x.forget(0), 1);
        CHECK.due("kinds(0), by none", x.kinds(0), 15);
        CHECK.due("forget(0)", x.forget(0), 0);
    }

    private static void kinds() {
        CHECK.promise(35);
        HedgehogLots x = Told.slope();
        CHECK.due("kinds(0)", x.kinds(0), 15);
        x.see(0, 3, 9);
        CHECK.due("kinds(0), a fat and a young one come out", x.kinds(0), 6);
        CHECK.due("kinds(1), it is another's", x.kinds(1), 0);
        x.alter(0, 0, 1);
        CHECK.due("kinds(0), all the same", x.kinds(0), 6);
        CHECK.due("kinds(1), it is as seen now", x.kinds(1), 15);
        x.see(1, 3, 0);
        CHECK.due("kinds(1), a fat one and a boar", x.kinds(1), 10);
        CHECK.due("kinds(4)", x.kinds(4), -1);
        CHECK.due("kinds(-1)", x.kinds(-1), -1);
        CHECK.due("hedgehog(0, 0)", x.hedgehog(0, 0), 1);
        x.see(1, 3, 6);
        CHECK.due("kinds(1), on a peg that is not there", x.kinds(1), 0);
    }

    private static void speeds() {
        CHECK.promise(36);
        HedgehogLots x = Told.slope();
        CHECK.due("speeds(0)", x.speeds(0), 1022);
        x.see(0, 3, 1);
        CHECK.due("speeds(0), 3 and 4", x.speeds(0), 24);
        x.see(0, 2, 2);
        CHECK.due("speeds(0), 3 and 4 once more", x.speeds(0), 24);
        CHECK.due("speeds(1), all is as seen", x.speeds(1), 1022);
        x.forget(0);
        x.see(0, 3, 9);
        CHECK.due("speeds(0), 7 to 9", x.speeds(0), 896);
        CHECK.due("speeds(1), it is another's", x.speeds(1), 0);
        CHECK.due("speeds(4)", x.speeds(4), -1);
        CHECK.due("speeds(-1)", x.speeds(-1), -1);
        CHECK.due("hedgehog(0, 1)", x.hedgehog(0, 1), 4);
        x.drive(32, 0);
        CHECK.due("speeds(0), a peg more: 9", x.speeds(0), 1 << 9);
    }

    private static void ask() {
        CHECK.promise(37);
        // From column 3 a plain one with 1, 2 rests on peg 0, with 3, 4 on 1, with 5, 6 on 2, else on none;
        // from column 2 with 1, 2 on peg 1, with 3, 4 on 2, else on none.
        HedgehogLots x = Told.slope();
        CHECK.due("ask(0, 0)", x.ask(0, 0), 3);
        CHECK.due("ask(0, 1)", x.ask(0, 1), 3);
        CHECK.due("ask(4, 0)", x.ask(4, 0), -1);
        CHECK.due("ask(-1, 0)", x.ask(-1, 0), -1);
        CHECK.due("ask(0, 2)", x.ask(0, 2), -1);
        CHECK.due("ask(0, -1)", x.ask(0, -1), -1);
        x.see(0, 2, 9);
        CHECK.due("ask(0, 0), of 5 to 9", x.ask(0, 0), 3);
        CHECK.due("ask(0, 1), of 5 to 9", x.ask(0, 1), 3);
        x.see(0, 3, 2);
        CHECK.due("ask(0, 0), of 5, 6", x.ask(0, 0), -4);
        CHECK.due("ask(0, 1), of 5, 6", x.ask(0, 1), -4);
        x.see(0, 3, 1);
        CHECK.due("ask(0, 0), of none", x.ask(0, 0), -4);
        // A young one rests with speed 1 alone, from column 4 as well as from column 1.
        HedgehogLots y = Told.by("peg 1 0;peg 4 0;young 5;");
        CHECK.due("ask(0, 0), of 1 and 4 the first", y.ask(0, 0), 1);
        CHECK.due("ask(0, 1)", y.ask(0, 1), 8);
        HedgehogLots nought = Told.by("peg 0 0;young 5;");
        CHECK.due("ask(0, 0), column 0", nought.ask(0, 0), 0);
        HedgehogLots none = Told.by("young 5;slug 1;");
        CHECK.due("ask(0, 0), nothing to meet", none.ask(0, 0), -4);
    }
}
