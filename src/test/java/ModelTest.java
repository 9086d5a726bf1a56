import java.lang.reflect.InvocationTargetException;
import java.lang.reflect.Method;
import java.util.ArrayList;
import java.util.Arrays;
import java.util.List;
import java.util.Random;

/** Random calls, seeded, put to the class and to the model; every answer must be the same. */
public final class ModelTest {
    /** Each call with the letters of its arguments, as argument() below reads them; then how often. */
    private static final String[] CALLS = {
        "end T 2", "fault - 1", "rule 6 3", "peg i3 4", "slug s 2", "hedgehog h4 4", "suit u3 4",
        "shift ic 6", "rag ik 4", "alter hqv 8", "drive ck 9", "lay c 5", "clear n 2", "sue hC 6", "drop n 1",
        "run hC5 8", "way hCR 4", "wins k 4", "share hk 4", "first hk 4", "kindly hCk 4",
        "place k2 4", "move i2 4", "bribe k2 4", "need hC 4", "swap k2 5", "pull k2 5",
        "luck VhCk2 5", "mean VhC2 5", "see hCp 4", "forget n 2", "kinds h 4", "speeds h 4", "ask h2 5",
        "drift xm2 3", "keep j 2", "back j 2", "sheet SLN 3", "write SIw 8", "read SLfr 5", "torn - 2",
        "count 6 3",
    };

    private final Random random;
    private final HedgehogLots lots = new HedgehogLots();
    private final Model model = new Model();
    private final List<String> told = new ArrayList<>();
    private final Check check;

    private ModelTest(long seed, Check check) {
        this.random = new Random(seed);
        this.check = check;
    }

    public static void main(String[] args) throws Exception {
        int rounds = args.length > 0 ? Integer.parseInt(args[0]) : 3000;
        Check check = new Check("ModelTest");
        for (int seed = 1; seed <= rounds; seed++) {
            new ModelTest(seed, check).go();
        }
        check.finish();
    }

    private void go() throws Exception {
        List<String> calls = new ArrayList<>();
        for (String line : CALLS) {
            for (int i = Integer.parseInt(line.split(" ")[2]); i > 0; i--) {
                calls.add(line);
            }
        }
        for (int i = 0; i < 150; i++) {
            if (i == 0 || random.nextInt(25) == 0) {
                putText();
            }
            String[] parts = calls.get(random.nextInt(calls.size())).split(" ");
            String letters = parts[1].equals("-") ? "" : parts[1];
            int[] values = new int[letters.length()];
            for (int a = 0; a < values.length; a++) {
                values[a] = argument(letters.charAt(a), a > 0 ? values[a - 1] : 0);
            }
            put(parts[0], values);
        }
    }

    private void put(String name, int... values) throws Exception {
        long got = call(lots, name, values);
        long want = call(model, name, values);
        String call = name + Arrays.toString(values);
        if (got != want) {
            System.out.println("after " + told);
        }
        told.add(call + "=" + want);
        check.due(call, got, want);
    }

    private static long call(Object x, String name, int[] values) throws Exception {
        Class<?>[] types = new Class<?>[values.length];
        Object[] boxed = new Object[values.length];
        for (int i = 0; i < values.length; i++) {
            types[i] = int.class;
            boxed[i] = values[i];
        }
        Method method = x.getClass().getMethod(name, types);
        try {
            return ((Number) method.invoke(x, boxed)).longValue();
        } catch (InvocationTargetException e) {
            throw new AssertionError(name + Arrays.toString(values) + " threw", e.getCause());
        }
    }

    private int pick(int... from) {
        return from[random.nextInt(from.length)];
    }

    /** Mostly a number that is as told; now and then one at or beyond an edge, or anything. */
    private int between(int low, int high) {
        int way = random.nextInt(60);
        if (way == 0) {
            return pick(low - 1, high + 1, Integer.MIN_VALUE, Integer.MAX_VALUE, random.nextInt());
        }
        return low + random.nextInt(Math.max(1, high - low + 1));
    }

    private int cell() {
        return random.nextInt(12) == 0 ? between(0, 99) : 10 * random.nextInt(10) + random.nextInt(8);
    }

    private int argument(char letter, int ahead) {
        if (letter >= '1' && letter <= '9') {
            return between(0, letter - '1');
        }
        switch (letter) {
            case 'T': return between(0, 160);
            case 'i': return between(0, model.now.pegs.size() - 1);
            case 's': return between(0, model.now.slugs.size());
            case 'h': return between(0, model.now.hedgehogs.size() - 1);
            case 'u': return between(0, model.now.suits.size() - 1);
            case 'c': return cell();
            case 'C': return between(0, 7);
            case 'k': return between(0, 3);
            case 'q': return between(0, 1);
            case 'v': return ahead == 0 ? between(0, 3) : between(1, 9);
            case 'n': return between(0, 5);
            case 'R': return between(0, 9);
            case 'V': return between(0, 10);
            case 'p': return pick(0, 1, 2, 3, 4, 5, 6, 9, 9, 9, likelyRest(), between(0, 6), 7, 8);
            case 'x': return random.nextInt();
            case 'm': return between(1, 60);
            case 'j': return between(0, 1);
            case 'S': return pick(0, 1, 1, 2, 3, between(0, 3));
            case 'L': return between(0, 2);
            case 'N': return pick(0, 3, 5, 6, 14, 40, 41, -1, between(0, 40));
            case 'I': return pick(between(0, 5), between(0, 39));
            case 'w': return random.nextBoolean() ? cell() : pick(between(0, 3), between(0, 3), 256, 65537, random.nextInt());
            case 'f': return pick(0, 0, 1, 2, 4, -1, between(0, 39));
            case 'r': return pick(1, 2, 3, between(0, 20));
            default: throw new AssertionError("no letter " + letter);
        }
    }

    private int likelyRest() {
        if (model.now.hedgehogs.isEmpty()) {
            return 9;
        }
        int rest = Model.trace(model.now, random.nextInt(model.now.hedgehogs.size()), random.nextInt(8)).rest;
        return rest < 0 ? 9 : rest;
    }

    // ---- texts

    private void putText() throws Exception {
        String text = random.nextInt(8) == 0 ? jumble() : lines();
        if (random.nextInt(4) == 0 && !text.isEmpty()) {
            text = spoiled(text);
        }
        if (random.nextInt(3) != 0) {
            put("end", 0);
        }
        for (int i = 0; i < text.length(); i++) {
            put("feed", text.charAt(i));
        }
        if (random.nextInt(20) == 0) {
            put("feed", pick(-1, 128, Integer.MIN_VALUE, Integer.MAX_VALUE));
        }
        put("count", 2);
        put("text");
        put("fault");
    }

    private String gap() {
        return random.nextInt(6) == 0 ? " ".repeat(1 + random.nextInt(2)) : "";
    }

    private String lines() {
        List<String> list = new ArrayList<>();
        int pegs = random.nextInt(8), slugs = random.nextInt(3), hogs = 1 + random.nextInt(4);
        int columns = 2 + random.nextInt(7);
        for (int i = 0; i < hogs; i++) {
            list.add(Model.KIND_NAMES[random.nextInt(4)] + gap() + (1 + random.nextInt(9)));
        }
        for (int i = 0; i < pegs; i++) {
            list.add("peg" + gap() + (10 * random.nextInt(10) + random.nextInt(columns)) + " " + random.nextInt(4));
        }
        for (int i = 0; i < slugs; i++) {
            list.add("slug" + gap() + (10 * random.nextInt(10) + random.nextInt(8)));
        }
        for (int i = random.nextInt(7); i > 0; i--) {
            list.add("suit" + gap() + random.nextInt(hogs) + " " + random.nextInt(8));
        }
        if (random.nextInt(4) == 0) {
            java.util.Collections.shuffle(list, random);
        }
        StringBuilder text = new StringBuilder();
        for (String line : list) {
            text.append(line).append(gap()).append(';').append(gap());
        }
        return text.toString();
    }

    private String spoiled(String text) {
        StringBuilder s = new StringBuilder(text);
        int at = random.nextInt(s.length());
        char other = " ;09859apz$\n\t{`/:A".charAt(random.nextInt(18));
        switch (random.nextInt(4)) {
            case 0: s.setCharAt(at, other); break;
            case 1: s.insert(at, other); break;
            case 2: s.deleteCharAt(at); break;
            default: s.setLength(at); break;
        }
        return s.toString();
    }

    private String jumble() {
        String[] tokens = {"peg", "slug", "suit", "plain", "fat", "young", "boar", ";", " ", "1", "22", "100", "x", "$"};
        StringBuilder s = new StringBuilder();
        for (int i = random.nextInt(30); i > 0; i--) {
            s.append(tokens[random.nextInt(tokens.length)]);
        }
        return s.toString();
    }
}
