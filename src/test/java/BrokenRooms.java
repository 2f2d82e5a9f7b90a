import java.io.ByteArrayOutputStream;
import java.io.IOException;
import java.io.OutputStream;
import java.net.URI;
import java.nio.file.Files;
import java.nio.file.Path;
import java.util.HashMap;
import java.util.List;
import java.util.Map;
import javax.tools.FileObject;
import javax.tools.ForwardingJavaFileManager;
import javax.tools.JavaCompiler;
import javax.tools.JavaFileManager;
import javax.tools.JavaFileObject;
import javax.tools.SimpleJavaFileObject;
import javax.tools.StandardJavaFileManager;
import javax.tools.ToolProvider;

/**
 * Makes the plain room anew with a change in it, in memory alone. The plain room and not the class: the
 * class may be written otherwise one day, and what breaks a sentence still stands here.
 */
final class BrokenRooms {
    private static final Path SOURCE = Path.of("src/test/java/PlainRoom.java");

    private final JavaCompiler compiler = ToolProvider.getSystemJavaCompiler();
    private final StandardJavaFileManager standard = compiler.getStandardFileManager(null, null, null);
    private final String source;
    private final Map<Change, Class<?>> made = new HashMap<>();

    BrokenRooms() throws IOException {
        source = Files.readString(SOURCE);
    }

    Class<?> with(Change change) throws ClassNotFoundException {
        Class<?> known = made.get(change);
        if (known == null) {
            known = compiled(change);
            made.put(change, known);
        }
        return known;
    }

    private Class<?> compiled(Change change) throws ClassNotFoundException {
        Classes classes = new Classes(standard);
        List<Text> texts = List.of(new Text(change.appliedTo(source)));
        if (!compiler.getTask(null, classes, null, List.of("-proc:none"), null, texts).call()) {
            throw new IllegalStateException("does not compile: " + change);
        }
        return new Loader(classes).loadClass("PlainRoom");
    }

    private static final class Text extends SimpleJavaFileObject {
        private final String text;

        Text(String text) {
            super(URI.create("string:///PlainRoom.java"), Kind.SOURCE);
            this.text = text;
        }

        @Override
        public CharSequence getCharContent(boolean ignoreEncodingErrors) {
            return text;
        }
    }

    private static final class Bytes extends SimpleJavaFileObject {
        private final ByteArrayOutputStream bytes = new ByteArrayOutputStream();

        Bytes(String name) {
            super(URI.create("bytes:///" + name), Kind.CLASS);
        }

        @Override
        public OutputStream openOutputStream() {
            return bytes;
        }
    }

    private static final class Classes extends ForwardingJavaFileManager<JavaFileManager> {
        private final Map<String, Bytes> byName = new HashMap<>();

        Classes(JavaFileManager standard) {
            super(standard);
        }

        @Override
        public JavaFileObject getJavaFileForOutput(Location location, String name, JavaFileObject.Kind kind,
                FileObject sibling) {
            return byName.computeIfAbsent(name, Bytes::new);
        }
    }

    // Its parent does not know the room itself, so that the changed one is found.
    private static final class Loader extends ClassLoader {
        private final Classes classes;

        Loader(Classes classes) {
            super(ClassLoader.getPlatformClassLoader());
            this.classes = classes;
        }

        @Override
        protected Class<?> findClass(String name) throws ClassNotFoundException {
            Bytes found = classes.byName.get(name);
            if (found == null) {
                throw new ClassNotFoundException(name);
            }
            byte[] bytes = found.bytes.toByteArray();
            return defineClass(name, bytes, 0, bytes.length);
        }
    }
}
