import java.io.ByteArrayOutputStream;
import java.io.IOException;
import java.io.PrintStream;
import java.net.URL;
import java.net.URLClassLoader;
import java.nio.charset.StandardCharsets;
import java.nio.file.Files;
import java.nio.file.Path;
import java.util.ArrayList;
import java.util.Collection;
import java.util.Comparator;
import java.util.List;
import java.util.TreeSet;
import java.util.regex.Matcher;
import java.util.regex.Pattern;
import java.util.stream.Stream;
import javax.tools.ToolProvider;

/** README.md's example compiles, uses every call of the face, and prints what stands behind each of its lines. */
public final class ReadmeTest {
    private static final Pattern EXAMPLE = Pattern.compile("```java\n(.*?)```", Pattern.DOTALL);
    private static final Pattern SHOWN = Pattern.compile("show\\(x\\..*\\); *// (-?[0-9]+)");
    private static final Pattern CALL = Pattern.compile("\\bx\\.([a-z]+)\\(");

    public static void main(String[] args) throws IOException, ReflectiveOperationException {
        Matcher examples = EXAMPLE.matcher(Files.readString(Path.of("README.md")));
        if (!examples.find()) {
            Check.due("examples in README.md", 0, 1);
            Check.end();
            return;
        }
        String example = examples.group(1);
        Check.due("the calls of the example", all(CALL, example, new TreeSet<>()).toString(),
            "[differ, field, fill, group, layout, octet, overlap, program, read, screen, sign, take, told]");
        List<String> due = new ArrayList<>();
        Check.due("what the example prints", printed(example).lines().toList().toString(),
            all(SHOWN, example, due).toString());
        Check.due("each show has its answer", due.size(), example.split("show\\(x\\.", -1).length - 1);
        Check.end();
    }

    private static <C extends Collection<String>> C all(Pattern pattern, String text, C found) {
        for (Matcher m = pattern.matcher(text); m.find();) {
            found.add(m.group(1));
        }
        return found;
    }

    private static String printed(String example) throws IOException, ReflectiveOperationException {
        Path folder = Files.createTempDirectory("readme");
        PrintStream before = System.out;
        ByteArrayOutputStream bytes = new ByteArrayOutputStream();
        try {
            Path source = Files.writeString(folder.resolve("Example.java"), example);
            int failed = ToolProvider.getSystemJavaCompiler().run(null, null, null, "-d", folder.toString(),
                "-cp", System.getProperty("java.class.path"), source.toString());
            Check.due("the example compiles (0 yes)", failed, 0);
            System.setOut(new PrintStream(bytes, true, StandardCharsets.US_ASCII));
            try (URLClassLoader loader = new URLClassLoader(new URL[] {folder.toUri().toURL()})) {
                loader.loadClass("Example").getMethod("main", String[].class).invoke(null, (Object) new String[0]);
            }
        } finally {
            System.setOut(before);
            delete(folder);
        }
        return bytes.toString(StandardCharsets.US_ASCII);
    }

    private static void delete(Path folder) throws IOException {
        try (Stream<Path> inside = Files.walk(folder)) {
            for (Path path : inside.sorted(Comparator.reverseOrder()).toList()) {
                Files.delete(path);
            }
        }
    }
}
