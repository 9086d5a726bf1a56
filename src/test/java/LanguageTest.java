import java.io.IOException;
import java.lang.reflect.Constructor;
import java.lang.reflect.Field;
import java.lang.reflect.Method;
import java.lang.reflect.Modifier;
import java.nio.file.Files;
import java.nio.file.Path;
import java.util.ArrayList;
import java.util.Arrays;
import java.util.List;
import java.util.Set;
import java.util.TreeMap;
import java.util.TreeSet;
import java.util.regex.Matcher;
import java.util.regex.Pattern;

/** What of ../shared/LANGUAGE.md can be seen from the text of the class and from the compiled class. */
public final class LanguageTest {
    private static final Check CHECK = new Check("LanguageTest");
    private static final String FACE = "feed:1 end:1 text:0 fault:0 rule:1 peg:2 slug:1 hedgehog:2 suit:2 shift:2 rag:2 "
        + "alter:3 drive:2 lay:1 clear:1 sue:2 drop:1 run:3 way:3 wins:1 share:2 first:2 kindly:3 place:2 move:2 "
        + "bribe:2 need:2 swap:2 pull:2 luck:5 mean:4 see:3 forget:1 kinds:1 speeds:1 ask:2 drift:3 keep:1 back:1 "
        + "sheet:3 write:3 read:4 torn:0 count:1";

    public static void main(String[] args) throws IOException {
        String source = Files.readString(Path.of("src/main/java/HedgehogLots.java"));
        words(source);
        methodLengths(source);
        face();
        insides();
        sameAnswers();
        CHECK.finish();
    }

    private static String withoutComments(String source) {
        return source.replaceAll("(?s)/\\*.*?\\*/", " ").replaceAll("//[^\n]*", " ");
    }

    private static void words(String source) {
        String code = withoutComments(source);
        String[] forbidden = {"\\bthrow\\b", "\\bthrows\\b", "\\btry\\b", "\\bcatch\\b", "\\bfinally\\b",
            "\\bsynchronized\\b", "\\bassert\\b", "->", "::", "Exact\\b", "\\bpackage\\b", "\\bvar\\b", "\\bString\\.",
            "\\bSystem\\.(?!arraycopy\\b)", "\\bThread\\b", "\\bRandom\\b", "\\bhashCode\\b", "\\btoString\\b",
            "\\bstatic\\s*\\{", "@"};
        for (String word : forbidden) {
            CHECK.holds("rules 4 to 13: no " + word, !Pattern.compile(word).matcher(code).find());
        }
        Matcher imports = Pattern.compile("import\\s+([\\w.*]+);").matcher(code);
        while (imports.find()) {
            CHECK.holds("rule 4: import " + imports.group(1),
                Set.of("java.util.Arrays", "java.util.ArrayList", "java.util.List").contains(imports.group(1)));
        }
        Matcher arrays = Pattern.compile("\\bArrays\\.(\\w+)").matcher(code);
        while (arrays.find()) {
            CHECK.holds("rule 4: Arrays." + arrays.group(1), Set.of("fill", "copyOf", "copyOfRange").contains(arrays.group(1)));
        }
        for (char c : source.toCharArray()) {
            if (c > 126) {
                CHECK.due("rule 4: signs are 1 to 127", c, 126);
            }
        }
    }

    /** By the indents: a method's lines from its head to the brace in the same column. */
    private static void methodLengths(String source) {
        String[] lines = source.split("\n");
        for (int i = 0; i < lines.length; i++) {
            if (lines[i].matches("( {4}| {8})[a-zA-Z].*\\) \\{") && !lines[i].matches(" *(if|for|while|switch|else).*")) {
                String close = lines[i].replaceAll("\\S.*", "") + "}";
                int end = i;
                while (!lines[end].equals(close)) {
                    end++;
                }
                CHECK.holds("rule 11: '" + lines[i].trim() + "' is short", end - i + 1 <= 60);
            }
        }
    }

    private static void face() {
        Class<?> c = HedgehogLots.class;
        CHECK.holds("rule 1: final", Modifier.isFinal(c.getModifiers()));
        TreeSet<String> methods = new TreeSet<>();
        TreeSet<String> hidden = new TreeSet<>();
        for (Method m : c.getDeclaredMethods()) {
            if (Modifier.isPrivate(m.getModifiers())) {
                hidden.add(m.getName());
            } else {
                CHECK.holds("rule 1: " + m + " is public", Modifier.isPublic(m.getModifiers()));
                methods.add(m.getName() + ":" + m.getParameterCount());
                boolean isLong = m.getName().equals("luck") || m.getName().equals("mean");
                CHECK.holds(m + " returns", m.getReturnType() == (isLong ? long.class : int.class));
            }
        }
        TreeSet<String> due = new TreeSet<>(Arrays.asList(FACE.split(" ")));
        CHECK.due("methods of the face", due.size(), 44);
        CHECK.holds("the face is as told: " + methods, methods.equals(due));
        for (String name : hidden) {
            CHECK.holds("rule 1: private " + name, !(" " + FACE).contains(" " + name + ":"));
        }
        TreeSet<String> constants = new TreeSet<>();
        for (Field f : c.getDeclaredFields()) {
            if (!Modifier.isPrivate(f.getModifiers())) {
                constants.add(f.getName());
            }
        }
        CHECK.holds("the constants are as told", constants.equals(new TreeSet<>(List.of("BAD", "STATE", "FULL", "NONE"))));
        Constructor<?>[] constructors = c.getDeclaredConstructors();
        CHECK.due("constructors", constructors.length, 1);
        CHECK.holds("the constructor is public", Modifier.isPublic(constructors[0].getModifiers()));
    }

    private static void insides() {
        List<Class<?>> classes = new ArrayList<>(List.of(HedgehogLots.class.getDeclaredClasses()));
        CHECK.holds("rule 11: some twelve classes", classes.size() + 1 <= 12);
        for (Class<?> c : classes) {
            CHECK.holds("rule 2: " + c + " is static", Modifier.isStatic(c.getModifiers()));
            CHECK.holds("rule 1: " + c + " is hidden", !Modifier.isPublic(c.getModifiers()) && !Modifier.isProtected(c.getModifiers()));
            for (Method m : c.getDeclaredMethods()) {
                CHECK.holds("rule 1: " + m, !(" " + FACE).contains(" " + m.getName() + ":"));
            }
        }
        classes.add(HedgehogLots.class);
        for (Class<?> c : classes) {
            int fields = 0;
            for (Field f : c.getDeclaredFields()) {
                if (Modifier.isStatic(f.getModifiers())) {
                    CHECK.holds("rule 5: " + f, Modifier.isFinal(f.getModifiers()) && (f.getType().isPrimitive() || f.getType() == String.class));
                } else {
                    fields++;
                }
            }
            CHECK.holds("rule 11: fields of " + c, fields <= 20);
            for (Method m : c.getDeclaredMethods()) {
                CHECK.holds("rule 11: parameters of " + m, m.getParameterCount() <= 7);
            }
        }
    }

    /** Rule 7, rule 13: any arguments in some states, twice: no call throws, and both answer the same. */
    private static void sameAnswers() {
        long once = anyCalls();
        CHECK.due("rule 13: the same calls", anyCalls(), once);
    }

    private static long anyCalls() {
        int[] odd = {Integer.MIN_VALUE, Integer.MIN_VALUE + 1, -1000, -14, -2, -1, 0, 1, 2, 3, 4, 5, 6, 7, 8, 9, 10, 11,
            39, 40, 41, 60, 61, 97, 98, 99, 100, 127, 128, 160, 161, 1000, 65535, Integer.MAX_VALUE - 1, Integer.MAX_VALUE};
        TreeMap<String, Method> face = new TreeMap<>();
        for (Method m : HedgehogLots.class.getDeclaredMethods()) {
            if (Modifier.isPublic(m.getModifiers())) {
                face.put(m.getName(), m);
            }
        }
        long sum = 0;
        for (int round = 0; round < 60; round++) {
            HedgehogLots x = round % 3 == 0 ? new HedgehogLots() : Told.slope();
            int at = 7 * round;
            for (int times = 0; times < 40; times++) {
                for (Method m : face.values()) {
                    Object[] values = new Object[m.getParameterCount()];
                    for (int i = 0; i < values.length; i++) {
                        at = at * 1103515245 + 12345;
                        values[i] = odd[(at >>> 16) % odd.length];
                    }
                    try {
                        sum = 31 * sum + ((Number) m.invoke(x, values)).longValue();
                    } catch (ReflectiveOperationException e) {
                        CHECK.holds("rule 7: " + m.getName() + Arrays.toString(values) + " threw " + e.getCause(), false);
                    }
                }
            }
        }
        return sum;
    }
}
