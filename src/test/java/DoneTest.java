import java.util.ArrayList;
import java.util.List;
import java.util.Random;

/**
 * What the class tells as it would be is done by its other calls, one behind another, and must come as told: on
 * seeded slopes, each kind of call on an object of its own, which is brought back by an IMAGE in between.
 */
public final class DoneTest {
    private static final Check CHECK = new Check("DoneTest");
    private static final String[] KINDS = {"plain", "fat", "young", "boar"};

    private final Random random;
    private final int hedgehogs;
    private final List<String> pegs = new ArrayList<>();
    private final List<String> others = new ArrayList<>();

    private DoneTest(long seed) {
        random = new Random(seed);
        hedgehogs = 1 + random.nextInt(4);
        for (int h = 0; h < hedgehogs; h++) {
            others.add(KINDS[random.nextInt(4)] + (1 + random.nextInt(9)) + ";");
        }
        List<Integer> cells = new ArrayList<>();
        int columns = 2 + random.nextInt(6);
        for (int i = 1 + random.nextInt(7); i > 0; i--) {
            int cell = free(cells, columns);
            pegs.add("peg" + cell + " " + random.nextInt(3) + ";");
        }
        for (int i = random.nextInt(2); i > 0; i--) {
            others.add("slug" + free(cells, 8) + ";");
        }
        for (int i = 1 + random.nextInt(4); i > 0; i--) {
            others.add("suit" + random.nextInt(hedgehogs) + " " + random.nextInt(columns) + ";");
        }
    }

    private int free(List<Integer> taken, int columns) {
        int cell = 10 * random.nextInt(10) + random.nextInt(columns);
        while (taken.contains(cell)) {
            cell = 10 * random.nextInt(10) + random.nextInt(columns);
        }
        taken.add(cell);
        return cell;
    }

    public static void main(String[] args) {
        int rounds = args.length > 0 ? Integer.parseInt(args[0]) : 800;
        for (int seed = 1; seed <= rounds; seed++) {
            DoneTest test = new DoneTest(seed);
            test.suits(test.made());
            test.columns(test.made());
            test.kindly(test.made());
            test.place(test.made());
            test.move(test.made());
            test.bribe(test.made());
            test.need(test.made());
            test.swap(test.made());
            test.pull();
            test.surely(test.made());
            test.seen(test.made());
            test.drift(test.made());
        }
        CHECK.finish();
    }

    private HedgehogLots made() {
        HedgehogLots x = Told.by(String.join("", pegs) + String.join("", others));
        x.keep(0);
        return x;
    }

    private static int won(HedgehogLots x, int k) {
        return Integer.bitCount(x.wins(k));
    }

    private static void suits(HedgehogLots x) {
        int anybody = 0, opens = 0;
        int[] wins = new int[4];
        int[] rests = new int[7];
        for (int i = 0; i < x.rule(3); i++) {
            int h = x.suit(i, 0), c = x.suit(i, 1), who = x.run(h, c, 1), rest = x.run(h, c, 0);
            CHECK.promise(10);
            CHECK.due("suit(" + i + ", 2)", x.suit(i, 2), who);
            anybody |= who >= 0 ? 1 << i : 0;
            opens |= x.run(h, c, 4) << i;
            if (who >= 0) {
                wins[who] |= 1 << i;
                rests[rest] |= 1 << i;
                CHECK.promise(19);
                CHECK.due("run(" + h + ", " + c + ", 1)", who, x.peg(rest, 1));
                CHECK.due("the cell where it rests", x.peg(rest, 0), 10 * x.run(h, c, 2) + x.way(h, c, x.run(h, c, 2)));
            }
        }
        CHECK.promise(6);
        CHECK.due("rule(4)", x.rule(4), anybody);
        CHECK.due("rule(5)", x.rule(5), opens);
        CHECK.promise(40);
        CHECK.due("back(0)", x.back(0), Integer.bitCount(anybody));
        CHECK.promise(21);
        for (int k = 0; k < 4; k++) {
            CHECK.due("wins(" + k + ")", x.wins(k), wins[k]);
        }
        CHECK.promise(7);
        for (int i = 0; i < x.rule(0); i++) {
            CHECK.due("peg(" + i + ", 2)", x.peg(i, 2), rests[i]);
        }
    }

    private void columns(HedgehogLots x) {
        int h = random.nextInt(hedgehogs);
        int k = random.nextInt(4);
        int share = 0, first = HedgehogLots.NONE, rests = 0;
        for (int c = 7; c >= 0; c--) {
            rests |= x.run(h, c, 0) >= 0 ? 1 << c : 0;
            if (x.run(h, c, 1) == k) {
                share++;
                first = c;
            }
        }
        CHECK.promise(22);
        CHECK.due("share", x.share(h, k), share);
        CHECK.promise(23);
        CHECK.due("first", x.first(h, k), first);
        CHECK.promise(9);
        CHECK.due("hedgehog(" + h + ", 3)", x.hedgehog(h, 3), rests);
    }

    private void kindly(HedgehogLots x) {
        CHECK.promise(24);
        int h = random.nextInt(hedgehogs);
        int c = random.nextInt(8);
        for (int k = 0; k < 4; k++) {
            int told = x.kindly(h, c, k);
            int bits = 0;
            for (int kind = 0; kind < 4; kind++) {
                x.alter(h, 0, kind);
                bits |= x.run(h, c, 1) == k ? 1 << kind : 0;
            }
            x.back(0);
            CHECK.due("kindly(" + h + ", " + c + ", " + k + ")", told, bits);
        }
    }

    private void place(HedgehogLots x) {
        CHECK.promise(25);
        int k = random.nextInt(4);
        if (pegs.size() == 7) {
            CHECK.due("place, 7 pegs", x.place(k, 0), HedgehogLots.FULL);
            return;
        }
        int cell = x.place(k, 0), number = x.place(k, 1), best = -1, most = -1;
        for (int c = 0; c < 100; c++) {
            if (c % 10 < 8 && x.drive(c, k) > 0) {
                int won = won(x, k);
                best = won > most ? c : best;
                most = Math.max(most, won);
                x.back(0);
            }
        }
        CHECK.due("place(" + k + ", 0)", cell, best);
        CHECK.due("place(" + k + ", 1)", number, most);
    }

    private void move(HedgehogLots x) {
        CHECK.promise(26);
        int i = random.nextInt(pegs.size());
        int k = x.peg(i, 1), cell = x.move(i, 0), number = x.move(i, 1), best = -1, most = -1;
        for (int c = 0; c < 100; c++) {
            if (c % 10 < 8 && x.shift(i, c) >= 0) {
                int won = won(x, k);
                best = won > most ? c : best;
                most = Math.max(most, won);
                x.back(0);
            }
        }
        CHECK.due("move(" + i + ", 0)", cell, best);
        CHECK.due("move(" + i + ", 1)", number, most);
    }

    private void bribe(HedgehogLots x) {
        CHECK.promise(27);
        int k = random.nextInt(4), cell = x.bribe(k, 0), number = x.bribe(k, 1), best = -1, fewest = 99;
        for (int c = 0; c < 100; c++) {
            if (c % 10 < 8 && x.lay(c) > 0) {
                int won = Integer.bitCount(x.rule(4)) - won(x, k);
                best = won < fewest ? c : best;
                fewest = Math.min(fewest, won);
                x.back(0);
            }
        }
        CHECK.due("bribe(" + k + ", 0)", cell, best);
        CHECK.due("bribe(" + k + ", 1)", number, fewest);
    }

    private void need(HedgehogLots x) {
        CHECK.promise(28);
        int h = random.nextInt(hedgehogs);
        for (int c = 0; c < 8; c++) {
            int told = x.need(h, c), least = HedgehogLots.NONE;
            for (int speed = 9; speed > 0; speed--) {
                x.alter(h, 1, speed);
                least = x.run(h, c, 2) == 10 ? speed : least;
            }
            CHECK.due("need(" + h + ", " + c + ")", told, least);
        }
    }

    private void swap(HedgehogLots x) {
        CHECK.promise(29);
        for (int k = 0; k < 3; k++) {
            int pair = x.swap(k, 0), number = x.swap(k, 1), best = HedgehogLots.NONE, most = won(x, k);
            for (int a = 0; a < hedgehogs; a++) {
                for (int b = a + 1; b < hedgehogs; b++) {
                    exchange(x, a, b);
                    best = won(x, k) > most ? 10 * a + b : best;
                    most = Math.max(most, won(x, k));
                    x.back(0);
                }
            }
            CHECK.due("swap(" + k + ", 0)", pair, best);
            CHECK.due("swap(" + k + ", 1)", number, best < 0 ? best : most);
        }
    }

    /** The suits of one become those of the other. */
    private static void exchange(HedgehogLots x, int a, int b) {
        int suits = x.rule(3);
        int[] h = new int[suits], c = new int[suits];
        for (int i = 0; i < suits; i++) {
            h[i] = x.suit(i, 0);
            c[i] = x.suit(i, 1);
        }
        x.drop(0);
        for (int i = 0; i < suits; i++) {
            x.sue(h[i] == a ? b : h[i] == b ? a : h[i], c[i]);
        }
    }

    private void pull() {
        CHECK.promise(30);
        HedgehogLots x = made();
        for (int k = 0; k < 3; k++) {
            int best = HedgehogLots.NONE, most = won(x, k);
            for (int i = 0; i < pegs.size(); i++) {
                List<String> left = new ArrayList<>(pegs);
                left.remove(i);
                int won = won(Told.by(String.join("", left) + String.join("", others)), k);
                best = won > most ? i : best;
                most = Math.max(most, won);
            }
            CHECK.due("pull(" + k + ", 0)", x.pull(k, 0), best);
            CHECK.due("pull(" + k + ", 1)", x.pull(k, 1), best < 0 ? best : most);
        }
    }

    /** Never the other way: as it runs. */
    private void surely(HedgehogLots x) {
        int h = random.nextInt(hedgehogs);
        int k = random.nextInt(4);
        for (int c = 0; c < 8; c++) {
            CHECK.promise(31);
            CHECK.due("luck(0, " + h + ", " + c + ", " + k + ", 0)", x.luck(0, h, c, k, 0), x.run(h, c, 1) == k ? 1 : 0);
            CHECK.due("luck(0, " + h + ", " + c + ", " + k + ", 1)", x.luck(0, h, c, k, 1), 1);
            CHECK.promise(32);
            CHECK.due("mean(0, " + h + ", " + c + ", 0)", x.mean(0, h, c, 0), x.run(h, c, 3));
            CHECK.due("mean(0, " + h + ", " + c + ", 1)", x.mean(0, h, c, 1), 1);
        }
    }

    /** Three are seen, mostly as they are; each kind and speed is set and run. */
    private void seen(HedgehogLots x) {
        int[] h = new int[3], c = new int[3], rest = new int[3];
        int one = random.nextInt(hedgehogs);
        for (int i = 0; i < 3; i++) {
            h[i] = i < 2 ? one : random.nextInt(hedgehogs);
            c[i] = random.nextInt(8);
            int is = random.nextInt(8) == 0 ? random.nextInt(7) : x.run(h[i], c[i], 0);
            rest[i] = is < 0 ? 9 : is;
            x.see(h[i], c[i], rest[i]);
        }
        int kinds = x.kinds(one), speeds = x.speeds(one), column = x.ask(one, 0), left = x.ask(one, 1);
        CHECK.promise(35);
        CHECK.due("kinds(" + one + ")", kinds, fitting(x, one, 0, h, c, rest));
        CHECK.promise(36);
        CHECK.due("speeds(" + one + ")", speeds, fitting(x, one, 1, h, c, rest));
        CHECK.promise(37);
        int best = HedgehogLots.NONE, fewest = Integer.bitCount(speeds);
        for (int from = 0; from < 8; from++) {
            int worst = worst(x, one, from, speeds);
            best = worst < fewest ? from : best;
            fewest = Math.min(fewest, worst);
        }
        CHECK.due("ask(" + one + ", 0)", column, best);
        CHECK.due("ask(" + one + ", 1)", left, best < 0 ? best : fewest);
    }

    private static int fitting(HedgehogLots x, int one, int what, int[] h, int[] c, int[] rest) {
        int bits = 0;
        for (int v = what; v <= (what == 0 ? 3 : 9); v++) {
            x.alter(one, what, v);
            boolean all = true;
            for (int i = 0; i < h.length; i++) {
                int is = x.run(h[i], c[i], 0);
                all &= rest[i] == (is < 0 ? 9 : is);
            }
            bits |= all ? 1 << v : 0;
        }
        x.back(0);
        return bits;
    }

    private static int worst(HedgehogLots x, int h, int from, int speeds) {
        int[] ends = new int[8];
        int worst = 0;
        for (int speed = 1; speed <= 9; speed++) {
            if ((speeds >> speed & 1) == 1) {
                x.alter(h, 1, speed);
                int rest = x.run(h, from, 0);
                int end = rest < 0 ? 7 : rest;
                ends[end]++;
                worst = Math.max(worst, ends[end]);
            }
        }
        return worst;
    }

    private void drift(HedgehogLots x) {
        CHECK.promise(38);
        int seed = random.nextInt(), n = 1 + random.nextInt(60);
        int told = x.drift(seed, n, 0), toldOfNought = x.drift(seed, n, 1), rests = 0, ofNought = 0;
        for (int i = 0; i < n; i++) {
            seed = seed * 1103515245 + 12345;
            int got = seed >> 16 & 32767;
            int h = got % hedgehogs, c = got / 4 % 8, rest = x.run(h, c, 0);
            if (rest >= 0) {
                rests++;
                ofNought += x.run(h, c, 1) == 0 ? 1 : 0;
                x.shift(rest, got / 32 % 10 * 10 + got / 320 % 8);
            }
        }
        CHECK.due("drift(.., " + n + ", 0)", told, rests);
        CHECK.due("drift(.., " + n + ", 1)", toldOfNought, ofNought);
    }
}
