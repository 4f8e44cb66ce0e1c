import java.io.ByteArrayOutputStream;
import java.io.File;
import java.io.IOException;
import java.nio.charset.StandardCharsets;
import java.nio.file.Files;
import java.nio.file.Path;
import java.util.ArrayList;
import java.util.Collections;
import java.util.List;
import java.util.TreeSet;
import java.util.regex.Matcher;
import java.util.regex.Pattern;
import java.util.stream.Stream;
import javax.tools.ToolProvider;

/**
 * README.md: its examples compile and answer what is said behind them, its commands run, and it
 * names every test that there is, and no other.
 */
public final class ReadmeTest {
    private static final Pattern BLOCK = Pattern.compile("^```(\\w+)\n(.*?)^```$", Pattern.MULTILINE | Pattern.DOTALL);
    private static final Pattern ANSWERED = Pattern.compile("^(x\\.(\\w+)\\(.*\\));\\s+// (-?\\d+|NONE|BAD|STATE|FULL)\\b.*$",
            Pattern.MULTILINE);
    private static final Pattern CALLED = Pattern.compile("^x\\.", Pattern.MULTILINE);
    private static final Pattern NAMED = Pattern.compile("`(\\w+Test)`");
    private static final String ALL_TESTS = ".ci/run";

    private static int wrong = 0;

    private static void check(boolean right, String what) {
        if (!right) {
            wrong++;
            System.out.println("README.md: " + what);
        }
    }

    public static void main(String[] args) throws Exception {
        String text = Files.readString(Path.of("README.md"));
        Path room = Files.createTempDirectory("readme");
        int answers = examples(room, String.join("\n", blocks(text, "java")));
        commands(room, blocks(text, "sh"));
        tests(text);
        clear(room);
        System.out.println("README.md: " + answers + " answers, " + wrong + " not as due");
        if (wrong != 0) {
            System.exit(1);
        }
    }

    private static List<String> blocks(String text, String language) {
        List<String> out = new ArrayList<>();
        Matcher block = BLOCK.matcher(text);
        while (block.find()) {
            if (block.group(1).equals(language)) {
                out.add(block.group(2));
            }
        }
        return out;
    }

    private static int examples(Path room, String code) throws Exception {
        check(run(room, "AsWritten", code).isEmpty(), "the examples do not compile, or print something");
        Matcher answered = ANSWERED.matcher(code);
        int answers = 0;
        while (answered.find()) {
            answers++;
        }
        Matcher called = CALLED.matcher(code);
        int calls = 0;
        while (called.find()) {
            calls++;
        }
        check(answers > 0 && answers == calls, answers + " of " + calls + " calls tell their answer");
        String asked = answered.replaceAll(m -> {
            String due = Character.isLetter(m.group(3).charAt(0)) ? "AlikeSteps." + m.group(3) : m.group(3);
            return Matcher.quoteReplacement("if (" + m.group(1) + " != " + due + ") { System.out.println(\""
                    + m.group(1).replace("\"", "\\\"") + " is not " + m.group(3) + "\"); }");
        });
        String out = run(room, "Asked", asked);
        check(out.isEmpty(), out);
        return answers;
    }

    /** What a program of these lines prints; or that it does not compile, or not end well. */
    private static String run(Path room, String name, String lines) throws Exception {
        Path file = room.resolve(name + ".java");
        Files.writeString(file, "public final class " + name + " {\npublic static void main(String[] args) {\n"
                + lines + "\n}\n}\n");
        ByteArrayOutputStream said = new ByteArrayOutputStream();
        int made = ToolProvider.getSystemJavaCompiler().run(null, said, said, "-d", room.toString(),
                "src/main/java/AlikeSteps.java", file.toString());
        if (made != 0) {
            return said.toString(StandardCharsets.UTF_8);
        }
        return output(room, "java -cp . " + name);
    }

    private static String output(Path where, String command) throws IOException, InterruptedException {
        Process process = new ProcessBuilder("bash", "-c", command).directory(where.toFile())
                .redirectErrorStream(true).start();
        String out = new String(process.getInputStream().readAllBytes(), StandardCharsets.UTF_8);
        int code = process.waitFor();
        return code == 0 ? out : out + "\n" + command + " ended with " + code;
    }

    /** In a copy of the sources, so that the checkout stays as it is. */
    private static void commands(Path room, List<String> blocks) throws Exception {
        Path copy = room.resolve("checkout");
        copy(Path.of("src"), copy.resolve("src"));
        boolean all = false;
        int others = 0;
        for (String block : blocks) {
            if (block.trim().equals(ALL_TESTS)) {
                // It is what runs this test, so it is not run from here.
                all = new File(ALL_TESTS).canExecute();
            } else {
                others++;
                String out = output(copy, "set -e\n" + block);
                check(out.trim().endsWith(", 0 not as due"), out);
            }
        }
        check(all, ALL_TESTS + " is not there to be run, or not told");
        check(others > 0, "it does not tell how to run one test");
    }

    private static void copy(Path from, Path to) throws IOException {
        List<Path> files;
        try (Stream<Path> walk = Files.walk(from)) {
            files = walk.toList();
        }
        for (Path file : files) {
            Path place = to.resolve(from.relativize(file));
            Files.createDirectories(place.getParent());
            Files.copy(file, place);
        }
    }

    private static void clear(Path room) throws IOException {
        List<Path> files;
        try (Stream<Path> walk = Files.walk(room)) {
            files = new ArrayList<>(walk.toList());
        }
        Collections.reverse(files);
        for (Path file : files) {
            Files.delete(file);
        }
    }

    private static void tests(String text) throws IOException {
        TreeSet<String> named = new TreeSet<>();
        Matcher name = NAMED.matcher(text);
        while (name.find()) {
            named.add(name.group(1));
        }
        TreeSet<String> there = new TreeSet<>();
        try (Stream<Path> files = Files.list(Path.of("src/test/java"))) {
            files.map(file -> file.getFileName().toString()).filter(file -> file.endsWith("Test.java"))
                    .forEach(file -> there.add(file.substring(0, file.length() - ".java".length())));
        }
        check(named.equals(there), "names " + named + ", there are " + there);
    }
}
