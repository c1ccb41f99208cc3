import java.io.ByteArrayOutputStream;
import java.io.IOException;
import java.io.PrintStream;
import java.net.URL;
import java.net.URLClassLoader;
import java.nio.charset.StandardCharsets;
import java.nio.file.Files;
import java.nio.file.Path;
import java.util.Comparator;
import java.util.List;
import java.util.regex.Matcher;
import java.util.regex.Pattern;
import java.util.stream.Collectors;
import java.util.stream.Stream;
import javax.tools.ToolProvider;

/** The example in README.md compiles with the class alone and prints what README.md says; run from the project's root. */
public final class ReadmeTest {
    private static final Path README = Path.of("README.md");
    private static final Path SOURCE = Path.of("src/main/java/GiftLots.java");
    private static final Due due = new Due();

    public static void main(String[] args) throws Exception {
        due.about(README.toString());
        String text = Files.readString(README);
        String example = block(text, "java");
        Matcher name = Pattern.compile("public final class (\\w+)").matcher(example);
        due.holds("the example is no class", name.find());
        Path place = Files.createTempDirectory("readme");
        try {
            Path file = place.resolve(name.group(1) + ".java");
            Files.writeString(file, example);
            int failed = ToolProvider.getSystemJavaCompiler().run(null, null, null,
                    "--release", "17", "-d", place.toString(), SOURCE.toString(), file.toString());
            due.is("what javac ends with", failed, 0);
            if (failed == 0) {
                due.is("what the example prints", run(place, name.group(1)), block(text, "text"));
            }
        } finally {
            remove(place);
        }
        due.end();
    }

    /** The first block of this kind. */
    private static String block(String text, String kind) {
        Matcher block = Pattern.compile("(?s)```" + kind + "\n(.*?)```\n").matcher(text);
        boolean found = block.find();
        due.holds("there is no block of " + kind, found);
        return found ? block.group(1) : "";
    }

    private static String run(Path classes, String name) throws Exception {
        PrintStream before = System.out;
        ByteArrayOutputStream printed = new ByteArrayOutputStream();
        ClassLoader above = ClassLoader.getPlatformClassLoader();
        try (URLClassLoader loader = new URLClassLoader(new URL[] {classes.toUri().toURL()}, above);
                PrintStream out = new PrintStream(printed, true, StandardCharsets.UTF_8)) {
            System.setOut(out);
            loader.loadClass(name).getMethod("main", String[].class).invoke(null, (Object) new String[0]);
        } finally {
            System.setOut(before);
        }
        return printed.toString(StandardCharsets.UTF_8).replace(System.lineSeparator(), "\n");
    }

    private static void remove(Path place) throws IOException {
        List<Path> all;
        try (Stream<Path> found = Files.walk(place)) {
            all = found.sorted(Comparator.reverseOrder()).collect(Collectors.toList());
        }
        for (Path path : all) {
            Files.delete(path);
        }
    }
}
