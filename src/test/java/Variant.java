import java.io.ByteArrayOutputStream;
import java.io.IOException;
import java.io.InputStream;
import java.io.OutputStream;
import java.io.Writer;
import java.lang.reflect.InvocationTargetException;
import java.net.URI;
import java.util.List;
import java.util.Map;
import java.util.TreeMap;
import javax.tools.ForwardingJavaFileManager;
import javax.tools.JavaCompiler;
import javax.tools.JavaFileManager;
import javax.tools.JavaFileObject;
import javax.tools.SimpleJavaFileObject;
import javax.tools.StandardJavaFileManager;
import javax.tools.ToolProvider;

/**
 * A class compiled from a text, with a loader of its own: tests loaded by it meet
 * that class instead of the one of the same name on the class path, and begin anew.
 */
final class Variant extends ClassLoader {
    private final Map<String, byte[]> classes = new TreeMap<>();
    private final boolean isCompiled;

    Variant(String name, String source) throws IOException {
        super(ClassLoader.getPlatformClassLoader());
        JavaCompiler compiler = ToolProvider.getSystemJavaCompiler();
        List<String> options = List.of("-proc:none", "-Xlint:none", "-cp", System.getProperty("java.class.path"));
        try (StandardJavaFileManager files = compiler.getStandardFileManager(d -> { }, null, null)) {
            isCompiled = compiler.getTask(Writer.nullWriter(), new Kept(files), d -> { }, options, null,
                    List.of(new Text(name, source))).call();
        }
    }

    boolean isCompiled() {
        return isCompiled;
    }

    /** What a test's main method threw, or null; a test that finds a wrong answer throws. */
    Throwable thrownBy(String test) throws ReflectiveOperationException {
        try {
            loadClass(test).getMethod("main", String[].class).invoke(null, (Object) new String[0]);
            return null;
        } catch (InvocationTargetException e) {
            return e.getCause();
        }
    }

    @Override
    protected Class<?> findClass(String name) throws ClassNotFoundException {
        byte[] bytes = classes.containsKey(name) ? classes.get(name) : onClassPath(name);
        return defineClass(name, bytes, 0, bytes.length);
    }

    private static byte[] onClassPath(String name) throws ClassNotFoundException {
        try (InputStream in = ClassLoader.getSystemResourceAsStream(name.replace('.', '/') + ".class")) {
            if (in == null) {
                throw new ClassNotFoundException(name);
            }
            return in.readAllBytes();
        } catch (IOException e) {
            throw new ClassNotFoundException(name, e);
        }
    }

    /** Keeps what is compiled instead of writing it to files. */
    private final class Kept extends ForwardingJavaFileManager<StandardJavaFileManager> {
        Kept(StandardJavaFileManager files) {
            super(files);
        }

        @Override
        public JavaFileObject getJavaFileForOutput(JavaFileManager.Location location, String name,
                JavaFileObject.Kind kind, javax.tools.FileObject sibling) {
            return new SimpleJavaFileObject(URI.create("kept:///" + name), kind) {
                @Override
                public OutputStream openOutputStream() {
                    return new ByteArrayOutputStream() {
                        @Override
                        public void close() {
                            classes.put(name, toByteArray());
                        }
                    };
                }
            };
        }
    }

    private static final class Text extends SimpleJavaFileObject {
        private final String text;

        Text(String name, String text) {
            super(URI.create("text:///" + name + ".java"), JavaFileObject.Kind.SOURCE);
            this.text = text;
        }

        @Override
        public CharSequence getCharContent(boolean ignoreEncodingErrors) {
            return text;
        }
    }
}
