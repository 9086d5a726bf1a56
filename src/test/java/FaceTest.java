import java.lang.reflect.Constructor;
import java.lang.reflect.Field;
import java.lang.reflect.Method;
import java.lang.reflect.Modifier;
import java.nio.file.Files;
import java.nio.file.Path;
import java.util.ArrayList;
import java.util.LinkedHashMap;
import java.util.List;
import java.util.Map;
import java.util.TreeMap;
import java.util.TreeSet;
import java.util.regex.Matcher;
import java.util.regex.Pattern;

/** The face of the class is that of the document, and its calls stand under the headings that the document tells. */
public final class FaceTest {
    private static final Check CHECK = new Check("FaceTest");

    public static void main(String[] args) throws Exception {
        Document document = new Document();
        CHECK.due("calls that the document tells", document.calls().size(), 44);
        CHECK.due("constants that the document tells", document.constants().size(), 4);
        CHECK.due("headings that the document tells", document.headings().size(), 8);
        type();
        calls(document);
        constants(document);
        headings(document);
        CHECK.finish();
    }

    private static void type() {
        int modifiers = HedgehogLots.class.getModifiers();
        CHECK.holds("the class is public and final", Modifier.isPublic(modifiers) && Modifier.isFinal(modifiers));
        CHECK.holds("the class has no package", HedgehogLots.class.getPackageName().isEmpty());
        CHECK.holds("the class is made of nothing else",
            HedgehogLots.class.getSuperclass() == Object.class && HedgehogLots.class.getInterfaces().length == 0);
        Constructor<?>[] constructors = HedgehogLots.class.getDeclaredConstructors();
        CHECK.due("constructors", constructors.length, 1);
        CHECK.holds("the constructor is public", Modifier.isPublic(constructors[0].getModifiers()));
        CHECK.due("what the constructor takes", constructors[0].getParameterCount(), 0);
    }

    private static void calls(Document document) {
        TreeSet<String> is = new TreeSet<>();
        for (Method m : HedgehogLots.class.getDeclaredMethods()) {
            if (!Modifier.isPrivate(m.getModifiers())) {
                CHECK.holds("rule 1: is public, not static: " + m,
                    Modifier.isPublic(m.getModifiers()) && !Modifier.isStatic(m.getModifiers()));
                CHECK.due("exceptions of " + m, m.getExceptionTypes().length, 0);
                List<String> types = new ArrayList<>();
                for (Class<?> type : m.getParameterTypes()) {
                    types.add(type.getName());
                }
                is.add(m.getReturnType().getName() + " " + m.getName() + "(" + String.join(", ", types) + ")");
            }
        }
        for (String call : document.calls()) {
            CHECK.holds("there is " + call, is.contains(call));
        }
        for (String call : is) {
            CHECK.holds("rule 1: the document tells " + call, document.calls().contains(call));
        }
    }

    private static void constants(Document document) throws IllegalAccessException {
        Map<String, Integer> is = new TreeMap<>();
        for (Field f : HedgehogLots.class.getDeclaredFields()) {
            if (!Modifier.isPrivate(f.getModifiers())) {
                boolean asDue = Modifier.isPublic(f.getModifiers()) && Modifier.isStatic(f.getModifiers())
                    && Modifier.isFinal(f.getModifiers()) && f.getType() == int.class;
                CHECK.holds("rule 1: a public constant: " + f, asDue);
                is.put(f.getName(), asDue ? f.getInt(null) : 0);
            }
        }
        CHECK.holds("the constants " + is, is.equals(new TreeMap<>(document.constants())));
    }

    /** The headings in the class's text, with the public calls under each. */
    private static void headings(Document document) throws Exception {
        Map<String, List<String>> is = new LinkedHashMap<>();
        Pattern pattern = Pattern.compile("(?m)^    // ---- (.*)$|^    public (?:int|long) (\\w+)\\(");
        Matcher m = pattern.matcher(Files.readString(Path.of("src/main/java/HedgehogLots.java")));
        String heading = "";
        while (m.find()) {
            if (m.group(1) != null) {
                heading = m.group(1);
            } else {
                is.computeIfAbsent(heading, key -> new ArrayList<>()).add(m.group(2));
            }
        }
        for (Map.Entry<String, List<String>> e : document.headings().entrySet()) {
            CHECK.holds("'" + e.getKey() + "' stands ahead of " + e.getValue() + ", not of " + is.get(e.getKey()),
                e.getValue().equals(is.get(e.getKey())));
        }
        CHECK.due("headings of the class", is.size(), document.headings().size());
        CHECK.holds("they stand in the document's order", List.copyOf(is.keySet()).equals(List.copyOf(document.headings().keySet())));
    }
}
