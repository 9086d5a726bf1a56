/** Objects with something told to them. */
final class Told {
    /** Three pegs, a slug, a hedgehog of each kind, four suits; what comes of them is told at its use. */
    static final String SLOPE = "peg 3 0;peg 12 1;peg 23 2;slug 95;plain 4;fat 3;young 9;boar 9;"
        + "suit 0 3;suit 1 3;suit 3 3;suit 2 2;";

    private Told() {
    }

    static HedgehogLots slope() {
        return by(SLOPE);
    }

    static HedgehogLots by(String text) {
        HedgehogLots x = new HedgehogLots();
        int answer = put(x, text);
        if (answer < 0) {
            throw new AssertionError(text + ": " + answer);
        }
        return x;
    }

    /** The text behind what the tape has; the answer of text(). */
    static int put(HedgehogLots x, String text) {
        for (int i = 0; i < text.length(); i++) {
            x.feed(text.charAt(i));
        }
        return x.text();
    }

    /** All that can be asked of what there is, so that two states can be compared. */
    static String all(HedgehogLots x) {
        StringBuilder s = new StringBuilder();
        for (int what = 0; what < 6; what++) {
            s.append(x.rule(what)).append(' ').append(x.count(what)).append(' ');
        }
        for (int i = 0; i < 7; i++) {
            s.append("| ").append(x.peg(i, 0)).append(' ').append(x.peg(i, 1)).append(' ').append(x.slug(i)).append(' ');
            for (int what = 0; what < 3; what++) {
                s.append(x.hedgehog(i, what)).append(' ').append(x.suit(i, what)).append(' ');
            }
            s.append(x.kinds(i)).append(' ').append(x.speeds(i)).append(' ');
        }
        return s.append(x.torn()).append(' ').append(x.fault()).toString();
    }
}
