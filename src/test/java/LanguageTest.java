import java.io.IOException;
import java.lang.reflect.Method;
import java.lang.reflect.Modifier;
import java.nio.file.Files;
import java.nio.file.Path;
import java.util.Arrays;
import java.util.Set;
import java.util.TreeMap;
import java.util.regex.Matcher;
import java.util.regex.Pattern;

/**
 * What of ../shared/LANGUAGE.md can be seen from the words of the class (RulesTest looks at its tree), and that any
 * arguments in some states throw nothing.
 */
public final class LanguageTest {
    private static final Check CHECK = new Check("LanguageTest");

    public static void main(String[] args) throws IOException {
        words(Files.readString(Path.of("src/main/java/HedgehogLots.java")));
        sameAnswers();
        CHECK.finish();
    }

    private static String withoutComments(String source) {
        return source.replaceAll("(?s)/\\*.*?\\*/", " ").replaceAll("//[^\n]*", " ");
    }

    private static void words(String source) {
        String code = withoutComments(source);
        String[] forbidden = {"\\bthrow\\b", "\\bthrows\\b", "\\btry\\b", "\\bcatch\\b", "\\bfinally\\b",
            "\\bsynchronized\\b", "\\bassert\\b", "->", "::", "Exact\\b", "\\bpackage\\b", "\\bvar\\b", "\\bString\\.",
            "\\bSystem\\.(?!arraycopy\\b)", "\\bThread\\b", "\\bRandom\\b", "\\bhashCode\\b", "\\btoString\\b",
            "\\bstatic\\s*\\{", "\\bprotected\\b", "@"};
        for (String word : forbidden) {
            CHECK.holds("rules 1 to 13: no " + word, !Pattern.compile(word).matcher(code).find());
        }
        Matcher imports = Pattern.compile("import\\s+([\\w.*]+);").matcher(code);
        while (imports.find()) {
            CHECK.holds("rule 4: import " + imports.group(1),
                Set.of("java.util.Arrays", "java.util.ArrayList", "java.util.List").contains(imports.group(1)));
        }
        for (char c : source.toCharArray()) {
            if (c > 126) {
                CHECK.due("rule 4: signs are 1 to 127", c, 126);
            }
        }
    }

    /** Rule 7, rule 13: any arguments in some states, twice: no call throws, and both answer the same. */
    private static void sameAnswers() {
        long once = anyCalls();
        CHECK.due("rule 13: the same calls", anyCalls(), once);
    }

    private static long anyCalls() {
        int[] odd = {Integer.MIN_VALUE, Integer.MIN_VALUE + 1, -1000, -14, -2, -1, 0, 1, 2, 3, 4, 5, 6, 7, 8, 9, 10, 11,
            39, 40, 41, 60, 61, 97, 98, 99, 100, 127, 128, 160, 161, 1000, 65535, Integer.MAX_VALUE - 1, Integer.MAX_VALUE};
        TreeMap<String, Method> face = new TreeMap<>();
        for (Method m : HedgehogLots.class.getDeclaredMethods()) {
            if (Modifier.isPublic(m.getModifiers())) {
                face.put(m.getName(), m);
            }
        }
        long sum = 0;
        for (int round = 0; round < 300; round++) {
            HedgehogLots x = round % 3 == 0 ? new HedgehogLots() : Told.slope();
            int at = 7 * round;
            // Of 512 calls some 90 go into the text.
            for (int times = 0; times < 9; times++) {
                for (Method m : face.values()) {
                    Object[] values = new Object[m.getParameterCount()];
                    for (int i = 0; i < values.length; i++) {
                        at = at * 1103515245 + 12345;
                        values[i] = odd[(at >>> 16) % odd.length];
                    }
                    try {
                        sum = 31 * sum + ((Number) m.invoke(x, values)).longValue();
                    } catch (ReflectiveOperationException e) {
                        CHECK.holds("rule 7: " + m.getName() + Arrays.toString(values) + " threw " + e.getCause(), false);
                    }
                }
            }
        }
        return sum;
    }
}
