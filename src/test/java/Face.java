import java.lang.reflect.Constructor;
import java.lang.reflect.InvocationTargetException;
import java.lang.reflect.Method;
import java.util.ArrayList;
import java.util.Arrays;
import java.util.HashMap;
import java.util.List;
import java.util.Map;

/** The face of a class HedgehogLots, the right one or a broken one, called by names. */
final class Face {
    private final Constructor<?> constructor;
    private final Map<String, Method> methods = new HashMap<>();

    Face(Class<?> c) throws ReflectiveOperationException {
        constructor = c.getConstructor();
        for (Method m : c.getDeclaredMethods()) {
            if (java.lang.reflect.Modifier.isPublic(m.getModifiers())) {
                methods.put(m.getName(), m);
            }
        }
    }

    /** A call: its name and its numbers. */
    static final class Call {
        final String name;
        final Object[] values;

        Call(String name, Object... values) {
            this.name = name;
            this.values = values;
        }

        /** As "drive(97, 0)"; MIN, MAX are the least and the greatest int. */
        static Call read(String words) {
            int open = words.indexOf('(');
            if (open < 1 || !words.endsWith(")")) {
                throw new IllegalArgumentException("no call: " + words);
            }
            String inside = words.substring(open + 1, words.length() - 1).trim();
            List<Object> values = new ArrayList<>();
            for (String part : inside.isEmpty() ? new String[0] : inside.split(",")) {
                values.add(number(part.trim()));
            }
            return new Call(words.substring(0, open), values.toArray());
        }

        private static int number(String word) {
            if (word.equals("MIN")) {
                return Integer.MIN_VALUE;
            }
            return word.equals("MAX") ? Integer.MAX_VALUE : Integer.parseInt(word);
        }

        @Override
        public String toString() {
            String list = Arrays.toString(values);
            return name + "(" + list.substring(1, list.length() - 1) + ")";
        }
    }

    /** An object of the class, which is used for 512 calls at most, as the document says. */
    final class Lots {
        private final Object x;
        private int calls = 0;

        private Lots(Object x) {
            this.x = x;
        }

        Object object() {
            return x;
        }

        long put(Call call) {
            calls++;
            if (calls > 512) {
                throw new IllegalStateException("the test uses an object for more than 512 calls");
            }
            Method method = methods.get(call.name);
            if (method == null || method.getParameterCount() != call.values.length) {
                throw new IllegalArgumentException("no such call: " + call);
            }
            try {
                return ((Number) method.invoke(x, call.values)).longValue();
            } catch (IllegalAccessException e) {
                throw new IllegalStateException(e);
            } catch (InvocationTargetException e) {
                throw new Thrown(call + " threw " + e.getCause());
            }
        }

        long put(String name, Object... values) {
            return put(new Call(name, values));
        }
    }

    /** What a class threw that may never throw. */
    static final class Thrown extends RuntimeException {
        private static final long serialVersionUID = 1;

        Thrown(String message) {
            super(message);
        }
    }

    Lots make() {
        try {
            return new Lots(constructor.newInstance());
        } catch (InvocationTargetException e) {
            throw new Thrown("the constructor threw " + e.getCause());
        } catch (ReflectiveOperationException e) {
            throw new IllegalStateException(e);
        }
    }

    Lots make(List<Call> history) {
        Lots lots = make();
        for (Call call : history) {
            lots.put(call);
        }
        return lots;
    }
}
