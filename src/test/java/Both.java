import java.util.ArrayList;
import java.util.Arrays;
import java.util.Collections;
import java.util.List;
import java.util.Random;

/**
 * The class and the model, to which the same calls are put, up to 512 of them; and seeded arguments and texts,
 * mostly such as are taken.
 */
final class Both {
    private static final Face LOTS = face(HedgehogLots.class);
    private static final Face MODEL = face(Model.class);

    final Random random;
    final Model model;
    private final Face.Lots lots;
    private final Face.Lots right;
    private final List<String> told = new ArrayList<>();
    private final Check check;
    private int calls = 0;

    Both(long seed, Check check) {
        this(seed, check, LOTS);
    }

    /** The face: of the class, or of one that was changed. */
    Both(long seed, Check check, Face face) {
        this.random = new Random(seed);
        this.check = check;
        lots = face.make();
        right = MODEL.make();
        model = (Model) right.object();
    }

    private static Face face(Class<?> c) {
        try {
            return new Face(c);
        } catch (ReflectiveOperationException e) {
            throw new IllegalStateException(e);
        }
    }

    /** How many calls more the object may be used for. */
    int left() {
        return 512 - calls;
    }

    /** The answer of the model, as which that of the class must be; behind the 512th call nothing is put. */
    long put(String name, int... values) {
        if (left() <= 0) {
            return 0;
        }
        calls++;
        Face.Call call = new Face.Call(name, boxed(values));
        long want = right.put(call);
        long got = lots.put(call);
        if (got != want) {
            System.out.println("after " + told);
        }
        told.add(call + "=" + want);
        check.due(call.toString(), got, want);
        return want;
    }

    private static Object[] boxed(int[] values) {
        Object[] boxed = new Object[values.length];
        for (int i = 0; i < values.length; i++) {
            boxed[i] = values[i];
        }
        return boxed;
    }

    /** A call whose arguments are told by letters, as argument() below reads them; "-": none. */
    long putSome(String name, String letters) {
        int[] values = new int[letters.equals("-") ? 0 : letters.length()];
        for (int a = 0; a < values.length; a++) {
            values[a] = argument(letters.charAt(a), a > 0 ? values[a - 1] : 0);
        }
        return put(name, values);
    }

    int pick(int... from) {
        return from[random.nextInt(from.length)];
    }

    /** Mostly a number that is as told; now and then one at or beyond an edge, or anything. */
    private int between(int low, int high) {
        int way = random.nextInt(60);
        if (way == 0) {
            return pick(low - 1, high + 1, Integer.MIN_VALUE, Integer.MAX_VALUE, random.nextInt());
        }
        return low + random.nextInt(Math.max(1, high - low + 1));
    }

    int cell() {
        return random.nextInt(12) == 0 ? between(0, 99) : 10 * random.nextInt(10) + random.nextInt(8);
    }

    private int argument(char letter, int ahead) {
        if (letter >= '1' && letter <= '9') {
            return between(0, letter - '1');
        }
        switch (letter) {
            case 'T': return between(0, 160);
            case 'i': return between(0, model.now.pegs.size() - 1);
            case 's': return between(0, model.now.slugs.size());
            case 'h': return between(0, model.now.hedgehogs.size() - 1);
            case 'u': return between(0, model.now.suits.size() - 1);
            case 'c': return cell();
            case 'C': return between(0, 7);
            case 'k': return between(0, 3);
            case 'q': return between(0, 1);
            case 'v': return ahead == 0 ? between(0, 3) : between(1, 9);
            case 'n': return between(0, 5);
            case 'R': return between(0, 9);
            case 'V': return between(0, 10);
            case 'p': return pick(0, 1, 2, 3, 4, 5, 6, 9, 9, 9, likelyRest(), between(0, 6), 7, 8);
            case 'x': return random.nextInt();
            case 'm': return between(1, 60);
            case 'j': return between(0, 1);
            case 'S': return pick(0, 1, 1, 2, 3, between(0, 3));
            case 'L': return between(0, 2);
            case 'N': return pick(0, 3, 5, 6, 14, 40, 41, -1, between(0, 40));
            case 'I': return pick(between(0, 5), between(0, 39));
            case 'w': return random.nextBoolean() ? cell() : pick(between(0, 3), between(0, 3), 256, 65537, random.nextInt());
            case 'f': return pick(0, 0, 1, 2, 4, -1, between(0, 39));
            case 'r': return pick(1, 2, 3, between(0, 20));
            default: throw new IllegalArgumentException("no letter " + letter);
        }
    }

    private int likelyRest() {
        if (model.now.hedgehogs.isEmpty()) {
            return 9;
        }
        int rest = Model.trace(model.now, random.nextInt(model.now.hedgehogs.size()), random.nextInt(8)).rest;
        return rest < 0 ? 9 : rest;
    }

    // ---- texts

    /** The tape is fed, and read. */
    long putText(String text) {
        for (int i = 0; i < text.length(); i++) {
            put("feed", text.charAt(i));
        }
        long answer = put("text");
        put("fault");
        return answer;
    }

    private String gap() {
        return random.nextInt(6) == 0 ? " ".repeat(1 + random.nextInt(2)) : "";
    }

    /** Lines, mostly such as are taken. */
    String lines() {
        List<String> list = new ArrayList<>();
        int pegs = random.nextInt(8), slugs = random.nextInt(3), hogs = 1 + random.nextInt(4);
        int columns = 2 + random.nextInt(7);
        for (int i = 0; i < hogs; i++) {
            list.add(Model.KIND_NAMES[random.nextInt(4)] + gap() + (1 + random.nextInt(9)));
        }
        for (int i = 0; i < pegs; i++) {
            list.add("peg" + gap() + (10 * random.nextInt(10) + random.nextInt(columns)) + " " + random.nextInt(4));
        }
        for (int i = 0; i < slugs; i++) {
            list.add("slug" + gap() + (10 * random.nextInt(10) + random.nextInt(8)));
        }
        for (int i = random.nextInt(7); i > 0; i--) {
            list.add("suit" + gap() + random.nextInt(hogs) + " " + random.nextInt(8));
        }
        if (random.nextInt(4) == 0) {
            Collections.shuffle(list, random);
        }
        StringBuilder text = new StringBuilder();
        for (String line : list) {
            text.append(line).append(gap()).append(';').append(gap());
        }
        return text.toString();
    }

    String spoiled(String text) {
        StringBuilder s = new StringBuilder(text);
        int at = random.nextInt(s.length());
        char other = " ;09859apz$\n\t{`/:A".charAt(random.nextInt(18));
        switch (random.nextInt(4)) {
            case 0: s.setCharAt(at, other); break;
            case 1: s.insert(at, other); break;
            case 2: s.deleteCharAt(at); break;
            default: s.setLength(at); break;
        }
        return s.toString();
    }

    String jumble() {
        List<String> tokens = Arrays.asList("peg", "slug", "suit", "plain", "fat", "young", "boar", ";", " ", "1", "22",
            "100", "x", "$");
        StringBuilder s = new StringBuilder();
        for (int i = random.nextInt(30); i > 0; i--) {
            s.append(tokens.get(random.nextInt(tokens.size())));
        }
        return s.toString();
    }
}
