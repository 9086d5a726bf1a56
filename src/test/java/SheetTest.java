/** Promises 39 to 45: images, sheets. */
public final class SheetTest {
    private static final Check CHECK = new Check("SheetTest");

    public static void main(String[] args) {
        keep();
        back();
        sheet();
        write();
        lanes();
        read();
        refusedRead();
        tornRead();
        count();
        CHECK.finish();
    }

    private static void keep() {
        CHECK.promise(39);
        HedgehogLots x = Told.slope();
        CHECK.due("keep(2)", x.keep(2), -1);
        CHECK.due("keep(-1)", x.keep(-1), -1);
        CHECK.due("keep(0)", x.keep(0), 0);
        CHECK.due("keep(1)", x.keep(1), 0);
        CHECK.due("keep(0)", x.keep(0), 1);
        CHECK.due("keep(1)", x.keep(1), 1);
        CHECK.due("back(0)", x.back(0), 2);
        CHECK.due("keep(0), it stays behind back()", x.keep(0), 1);
    }

    private static void change(HedgehogLots x) {
        x.shift(0, 97);
        x.rag(1, 3);
        x.drive(0, 0);
        x.lay(1);
        x.alter(0, 0, 2);
        x.alter(1, 1, 9);
        x.drop(1);
        x.sue(3, 0);
    }

    private static void back() {
        CHECK.promise(40);
        HedgehogLots x = Told.slope();
        CHECK.due("back(0)", x.back(0), -2);
        CHECK.due("back(1)", x.back(1), -2);
        CHECK.due("back(2)", x.back(2), -1);
        CHECK.due("back(-1)", x.back(-1), -1);
        x.keep(0);
        x.keep(1);
        String first = Told.all(x);
        change(x);
        x.keep(1);
        String second = Told.all(x);
        CHECK.holds("the second is another", !first.equals(second));
        x.clear(0);
        x.drop(0);
        CHECK.due("back(0)", x.back(0), 2);
        CHECK.holds("all is as image 0", Told.all(x).equals(first));
        // In suit 0 a young one comes out; in suit 1 the boar turns by the peg in 0 to that in 12, on which it rests.
        CHECK.due("back(1)", x.back(1), 1);
        CHECK.holds("all is as image 1", Told.all(x).equals(second));
        x.back(0);
        change(x);
        CHECK.due("back(0), once more", x.back(0), 2);
        CHECK.due("peg(0, 0)", x.peg(0, 0), 3);
        CHECK.due("peg(1, 1)", x.peg(1, 1), 1);
        CHECK.due("rule(0)", x.rule(0), 3);
        CHECK.due("rule(1)", x.rule(1), 1);
        CHECK.due("rule(3)", x.rule(3), 4);
        CHECK.due("hedgehog(0, 0)", x.hedgehog(0, 0), 0);
        CHECK.due("hedgehog(1, 1)", x.hedgehog(1, 1), 3);
        CHECK.due("suit(1, 0)", x.suit(1, 0), 1);
        CHECK.due("drive(97, 0)", x.drive(97, 0), 4);
        HedgehogLots y = Told.slope();
        y.keep(0);
        y.see(0, 0, 9);
        y.sheet(0, 0, 3);
        y.feed(32);
        y.back(0);
        CHECK.due("count(0), seen stays", y.count(0), 1);
        CHECK.due("count(3), sheets stay", y.count(3), 3);
        CHECK.due("count(2), the tape stays", y.count(2), 1);
    }

    private static void sheet() {
        CHECK.promise(41);
        HedgehogLots x = new HedgehogLots();
        CHECK.due("sheet(0, 0, 40)", x.sheet(0, 0, 40), 1);
        CHECK.due("sheet(0, 0, 41)", x.sheet(0, 0, 41), -1);
        CHECK.due("sheet(0, 0, -1)", x.sheet(0, 0, -1), -14);
        CHECK.due("sheet(0, 0, -2147483648)", x.sheet(0, 0, Integer.MIN_VALUE), -14);
        CHECK.due("sheet(4, 0, -1)", x.sheet(4, 0, -1), -1);
        CHECK.due("sheet(-1, 0, 1)", x.sheet(-1, 0, 1), -1);
        CHECK.due("sheet(0, 3, -1)", x.sheet(0, 3, -1), -1);
        CHECK.due("sheet(0, -1, 1)", x.sheet(0, -1, 1), -1);
        CHECK.due("count(3), it stays", x.count(3), 40);
        CHECK.due("sheet(0, 2, 0)", x.sheet(0, 2, 0), 1);
        CHECK.due("count(3)", x.count(3), 0);
        CHECK.due("write(0, 0, 1), an empty row", x.write(0, 0, 1), -12);
        x.sheet(3, 1, 2);
        x.write(3, 0, 55);
        x.write(3, 1, 2);
        x.sheet(3, 1, 2);
        CHECK.due("read(3, 1, 0, 1)", x.read(3, 1, 0, 1), 1);
        CHECK.due("peg(0, 0), of a new row", x.peg(0, 0), 0);
        CHECK.due("peg(0, 1), of a new row", x.peg(0, 1), 0);
    }

    private static void write() {
        CHECK.promise(42);
        HedgehogLots x = new HedgehogLots();
        CHECK.due("write(0, 0, 0), nothing", x.write(0, 0, 0), -11);
        CHECK.due("write(0, -1, 0), nothing", x.write(0, -1, 0), -11);
        CHECK.due("write(4, 0, 0)", x.write(4, 0, 0), -1);
        CHECK.due("write(-1, 0, 0)", x.write(-1, 0, 0), -1);
        for (int lane = 0; lane < 3; lane++) {
            x.sheet(lane, lane, 2);
            CHECK.due("write(" + lane + ", 0, 1)", x.write(lane, 0, 1), 1);
            CHECK.due("write(" + lane + ", 1, 1)", x.write(lane, 1, 1), 1);
            CHECK.due("write(" + lane + ", 2, 1)", x.write(lane, 2, 1), -12);
            CHECK.due("write(" + lane + ", -1, 1)", x.write(lane, -1, 1), -12);
            CHECK.due("write, index beyond", x.write(lane, Integer.MAX_VALUE, 1), -12);
        }
        CHECK.due("write(3, 0, 0), nothing", x.write(3, 0, 0), -11);
    }

    /** What is driven of a cell that v was written to: the answer of read(). */
    private static int readOf(int lane, int v) {
        HedgehogLots x = new HedgehogLots();
        x.sheet(1, lane, 2);
        x.write(1, 0, v);
        int answer = x.read(1, lane, 0, 1);
        return answer == 1 ? x.peg(0, 0) : answer;
    }

    private static void lanes() {
        CHECK.promise(42);
        CHECK.due("256 + 44 as a byte", readOf(0, 300), 44);
        CHECK.due("-256 + 7 as a byte", readOf(0, -249), 7);
        CHECK.due("200 as a byte", readOf(0, 200), -20);
        CHECK.due("65536 + 97 as a short", readOf(1, 65633), 97);
        CHECK.due("256 + 44 as a short", readOf(1, 300), -20);
        CHECK.due("65536 + 97 as an int", readOf(2, 65633), -20);
        CHECK.due("97 as an int", readOf(2, 97), 97);
    }

    /** Sheet 1, shorts: cells 31, 42, 31 once more, with rags 0, 1, 2. */
    private static HedgehogLots written() {
        HedgehogLots x = new HedgehogLots();
        x.sheet(1, 1, 6);
        int[] row = {31, 0, 42, 1, 31, 2};
        for (int i = 0; i < row.length; i++) {
            x.write(1, i, row[i]);
        }
        return x;
    }

    private static void read() {
        CHECK.promise(43);
        HedgehogLots x = written();
        CHECK.due("read(4, 1, 0, 1)", x.read(4, 1, 0, 1), -1);
        CHECK.due("read(-1, 1, 0, 1)", x.read(-1, 1, 0, 1), -1);
        CHECK.due("read(1, 3, 0, 1)", x.read(1, 3, 0, 1), -1);
        CHECK.due("read(1, -1, 0, 1)", x.read(1, -1, 0, 1), -1);
        CHECK.due("read(1, 1, 0, 21)", x.read(1, 1, 0, 21), -1);
        CHECK.due("read(1, 1, 0, -1)", x.read(1, 1, 0, -1), -1);
        CHECK.due("read(1, 1, 0, 0)", x.read(1, 1, 0, 0), 0);
        CHECK.due("rule(0)", x.rule(0), 0);
        CHECK.due("read(1, 1, 0, 2)", x.read(1, 1, 0, 2), 2);
        CHECK.due("peg(0, 0)", x.peg(0, 0), 31);
        CHECK.due("peg(0, 1)", x.peg(0, 1), 0);
        CHECK.due("peg(1, 0)", x.peg(1, 0), 42);
        CHECK.due("peg(1, 1)", x.peg(1, 1), 1);
        HedgehogLots y = written();
        CHECK.due("read(1, 1, 2, 20), two come", y.read(1, 1, 2, 20), 2);
        CHECK.due("peg(0, 0)", y.peg(0, 0), 42);
        CHECK.due("peg(1, 0)", y.peg(1, 0), 31);
        CHECK.due("peg(1, 1)", y.peg(1, 1), 2);
        HedgehogLots z = written();
        CHECK.due("read(1, 1, 1, 1), a cell 0, a rag 42", z.read(1, 1, 1, 1), -20);
        z.write(1, 2, 3);
        CHECK.due("read(1, 1, 1, 1), a cell 0, a rag 3", z.read(1, 1, 1, 1), 1);
        CHECK.due("peg(0, 1)", z.peg(0, 1), 3);
    }

    private static void refusedRead() {
        CHECK.promise(43);
        HedgehogLots x = written();
        CHECK.due("read(1, 1, 0, 3), state", x.read(1, 1, 0, 3), -22);
        CHECK.due("rule(0), none came", x.rule(0), 0);
        CHECK.due("drive(42, 0), its cell is free", x.drive(42, 0), 1);
        CHECK.due("read(1, 1, 0, 3), the first met", x.read(1, 1, 0, 3), -21);
        CHECK.due("read(1, 1, 0, 20), the first met", x.read(1, 1, 0, 20), -21);
        CHECK.due("rule(0), what there was stays", x.rule(0), 1);
        x.lay(31);
        CHECK.due("read(1, 1, 0, 1), a slug", x.read(1, 1, 0, 1), -20);
        HedgehogLots full = written();
        for (int c = 0; c < 6; c++) {
            full.drive(c, 0);
        }
        CHECK.due("read(1, 1, 0, 2), full", full.read(1, 1, 0, 2), -21);
        CHECK.due("rule(0)", full.rule(0), 6);
        CHECK.due("read(1, 1, 0, 1)", full.read(1, 1, 0, 1), 1);
    }

    private static void torn(HedgehogLots x, int k, int lane, int f, int n, int came, int fault) {
        CHECK.promise(43);
        String call = "read(" + k + ", " + lane + ", " + f + ", " + n + ")";
        CHECK.due(call, x.read(k, lane, f, n), came);
        CHECK.promise(44);
        CHECK.due("torn() behind " + call, x.torn(), fault);
    }

    private static void tornRead() {
        torn(written(), 1, 1, 0, 2, 2, 0);
        torn(written(), 1, 1, 2, 3, 2, 2);
        torn(written(), 1, 1, 5, 1, 0, 2);
        torn(written(), 1, 1, 3, 2, -20, 0);
        torn(written(), 1, 1, 6, 1, 0, 2);
        torn(written(), 1, 1, -1, 1, 0, 2);
        torn(written(), 1, 1, Integer.MAX_VALUE, 20, 0, 2);
        torn(written(), 1, 1, Integer.MIN_VALUE, 20, 0, 2);
        torn(written(), 1, 0, 0, 1, 0, 3);
        torn(written(), 1, 2, 99, 1, 0, 3);
        torn(written(), 2, 0, 0, 1, 0, 1);
        torn(written(), 2, 2, 99, 20, 0, 1);
        torn(written(), 2, 2, 99, 0, 0, 0);
        torn(written(), 1, 2, 99, 0, 0, 0);
        HedgehogLots x = written();
        CHECK.promise(44);
        CHECK.due("torn(), none read", x.torn(), 0);
        x.read(2, 0, 0, 1);
        x.read(1, 1, 0, 3);
        CHECK.due("torn(), a refused read leaves it", x.torn(), 1);
        x.read(1, 1, 0, 21);
        CHECK.due("torn(), a bad read leaves it", x.torn(), 1);
        x.write(1, 9, 0);
        CHECK.due("torn(), a write leaves it", x.torn(), 1);
        x.read(1, 1, 0, 0);
        CHECK.due("torn(), of none", x.torn(), 0);
    }

    private static void count() {
        CHECK.promise(45);
        HedgehogLots x = Told.slope();
        CHECK.due("count(-1)", x.count(-1), -1);
        CHECK.due("count(6)", x.count(6), -1);
        x.see(0, 0, 9);
        x.see(0, 0, 9);
        CHECK.due("count(0)", x.count(0), 2);
        x.keep(1);
        CHECK.due("count(1)", x.count(1), 1);
        x.keep(0);
        CHECK.due("count(1)", x.count(1), 2);
        x.keep(0);
        CHECK.due("count(1)", x.count(1), 2);
        x.feed(1);
        x.feed(1);
        x.feed(1);
        CHECK.due("count(2)", x.count(2), 3);
        x.sheet(1, 0, 7);
        CHECK.due("count(3), nothing", x.count(3), -4);
        x.sheet(0, 0, 7);
        CHECK.due("count(3)", x.count(3), 7);
        CHECK.due("count(4)", x.count(4), 1);
        x.rag(1, 0);
        CHECK.due("count(4)", x.count(4), 2);
        CHECK.due("count(5)", x.count(5), 25);
        x.alter(0, 1, 1);
        CHECK.due("count(5)", x.count(5), 22);
    }
}
