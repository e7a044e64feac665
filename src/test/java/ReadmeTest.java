import java.io.IOException;
import java.lang.reflect.Modifier;
import java.net.URL;
import java.net.URLClassLoader;
import java.nio.file.Files;
import java.nio.file.Path;
import java.util.Arrays;
import java.util.TreeSet;
import java.util.regex.Matcher;
import java.util.regex.Pattern;
import java.util.stream.Stream;

/** Compiles the pieces of Java in README.md and looks at what each call on that page answers. */
public final class ReadmeTest {
    private static final Pattern PIECE = Pattern.compile("(?ms)^```java\n(.*?)^```$");
    private static final Pattern CALL = Pattern.compile("(x\\.(\\w+)\\(.*?\\)); +// ([-\\w]+)(?:: .*)?");
    private static final TreeSet<String> called = new TreeSet<>();
    private static final Check check = new Check();

    public static void main(String[] args) throws Exception {
        check.part("README.md");
        String written = examples(Files.readString(Path.of("README.md")));
        Path made = Files.createTempDirectory("readme");
        try {
            runExamples(made, written);
        } finally {
            remove(made);
        }
        TreeSet<String> face = new TreeSet<>();
        Arrays.stream(OldestCoins.class.getDeclaredMethods()).filter(m -> Modifier.isPublic(m.getModifiers()))
            .forEach(m -> face.add(m.getName()));
        for (String name : face) {
            check.due(name + " stands on the page", called.contains(name) ? 1 : 0, 1);
        }
        check.end();
    }

    /** By this the examples tell their answers. */
    public static void due(int piece, String call, long got, long want) {
        check.due("piece " + piece + ", " + call, got, want);
    }

    private static String examples(String page) {
        StringBuilder members = new StringBuilder();
        StringBuilder body = new StringBuilder();
        Matcher piece = PIECE.matcher(page);
        for (int number = 1; piece.find(); number++) {
            if (piece.group(1).startsWith("static ")) {
                members.append(piece.group(1));
                continue;
            }
            body.append("{\n");
            for (String line : piece.group(1).split("\n")) {
                body.append(statement(number, line)).append('\n');
            }
            body.append("}\n");
        }
        return "public class Examples {\n" + members + "public static void all() {\n" + body + "}\n}\n";
    }

    private static String statement(int piece, String line) {
        Matcher call = CALL.matcher(line);
        if (!call.matches()) {
            // A call without its answer would be one that nobody looks at.
            check.due("a call without an answer: " + line, line.startsWith("x.") ? 1 : 0, 0);
            return line;
        }
        called.add(call.group(2));
        String answer = call.group(3);
        String due = answer.matches("[A-Z]+") ? "OldestCoins." + answer : answer;
        return "ReadmeTest.due(" + piece + ", \"" + call.group(1) + "\", " + call.group(1) + ", " + due + ");";
    }

    private static void runExamples(Path made, String written) throws Exception {
        Path source = Files.writeString(made.resolve("Examples.java"), written);
        int code = new ProcessBuilder("javac", "--release", "17", "-cp", System.getProperty("java.class.path"),
            "-d", made.toString(), source.toString()).inheritIO().start().waitFor();
        check.due("the compiler", code, 0);
        if (code != 0) {
            return;
        }
        try (URLClassLoader loader = new URLClassLoader(new URL[] {made.toUri().toURL()}, ReadmeTest.class.getClassLoader())) {
            loader.loadClass("Examples").getMethod("all").invoke(null);
        }
    }

    private static void remove(Path directory) throws IOException {
        try (Stream<Path> inside = Files.list(directory)) {
            for (Path file : inside.toList()) {
                Files.delete(file);
            }
        }
        Files.delete(directory);
    }
}
