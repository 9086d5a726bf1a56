import java.io.ByteArrayOutputStream;
import java.io.OutputStream;
import java.net.URI;
import java.util.HashMap;
import java.util.List;
import java.util.Map;
import javax.tools.FileObject;
import javax.tools.ForwardingJavaFileManager;
import javax.tools.JavaCompiler;
import javax.tools.JavaFileManager;
import javax.tools.JavaFileObject;
import javax.tools.SimpleJavaFileObject;
import javax.tools.StandardJavaFileManager;
import javax.tools.ToolProvider;

/** Classes that are compiled out of a text and loaded, without any file. */
final class Compiled {
    private Compiled() {
    }

    /** A class without a package; what it uses is found by the given loader, and on the test's own class path. */
    static Class<?> of(String name, String source, ClassLoader parent) throws ReflectiveOperationException {
        JavaCompiler compiler = ToolProvider.getSystemJavaCompiler();
        Map<String, ByteArrayOutputStream> classes = new HashMap<>();
        StandardJavaFileManager standard = compiler.getStandardFileManager(d -> { }, null, null);
        JavaFileManager manager = new ForwardingJavaFileManager<JavaFileManager>(standard) {
            @Override
            public JavaFileObject getJavaFileForOutput(Location l, String of, JavaFileObject.Kind kind, FileObject near) {
                return new SimpleJavaFileObject(URI.create("memory:///" + of + ".class"), kind) {
                    @Override
                    public OutputStream openOutputStream() {
                        ByteArrayOutputStream bytes = new ByteArrayOutputStream();
                        classes.put(of, bytes);
                        return bytes;
                    }
                };
            }
        };
        StringBuilder errors = new StringBuilder();
        List<JavaFileObject> units = List.of(file(name, source));
        if (!compiler.getTask(null, manager, d -> errors.append(d).append(' '), List.of("-proc:none"), null, units).call()) {
            throw new IllegalArgumentException("does not compile: " + errors);
        }
        ClassLoader loader = new ClassLoader(parent) {
            @Override
            protected Class<?> findClass(String of) throws ClassNotFoundException {
                ByteArrayOutputStream bytes = classes.get(of);
                if (bytes == null) {
                    throw new ClassNotFoundException(of);
                }
                return defineClass(of, bytes.toByteArray(), 0, bytes.size());
            }
        };
        return loader.loadClass(name);
    }

    static JavaFileObject file(String name, String source) {
        return new SimpleJavaFileObject(URI.create("memory:///" + name + ".java"), JavaFileObject.Kind.SOURCE) {
            @Override
            public CharSequence getCharContent(boolean ignoreEncodingErrors) {
                return source;
            }
        };
    }
}
