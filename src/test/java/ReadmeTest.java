import java.io.File;
import java.io.IOException;
import java.lang.reflect.Method;
import java.lang.reflect.Modifier;
import java.net.URL;
import java.net.URLClassLoader;
import java.nio.file.Files;
import java.nio.file.Path;
import java.util.ArrayList;
import java.util.List;
import java.util.TreeSet;
import java.util.concurrent.TimeUnit;
import java.util.regex.Matcher;
import java.util.regex.Pattern;
import java.util.stream.Stream;
import javax.tools.ToolProvider;

/** README.md: each example answers what stands behind it, each command runs, each call and each test is named. */
public final class ReadmeTest {
    private static final Path README = Path.of("README.md");
    private static final Pattern ANSWER =
        Pattern.compile("(\\s*)(x\\.\\w+\\(.*\\));\\s*// (-?\\d+|BAD|STATE|FULL|NONE): .*");

    public static void main(String[] args) throws Exception {
        String readme = Files.readString(README);
        Path room = Files.createTempDirectory("readme");
        try {
            examples(readme, room);
            commands(readme, room);
        } finally {
            remove(room);
        }
        everyCallIsTold(readme);
        refusalsAreThoseOfTheDocument(readme);
        everyTestIsNamed(readme);
        Check.end();
    }

    private static List<String> blocks(String readme, String kind) {
        List<String> blocks = new ArrayList<>();
        Matcher m = Pattern.compile("```" + kind + "\n(.*?)```", Pattern.DOTALL).matcher(readme);
        while (m.find()) {
            blocks.add(m.group(1));
        }
        return blocks;
    }

    /** Each example is compiled as it stands, with its answers checked in place. */
    private static void examples(String readme, Path room) throws Exception {
        List<String> blocks = blocks(readme, "java");
        Check.isTrue("there are examples", blocks.size() >= 3);
        StringBuilder code = new StringBuilder("final class Example {\n");
        code.append("static java.util.List<Object[]> rows = new java.util.ArrayList<>();\n");
        code.append("static void due(String call, int got, int want) { rows.add(new Object[] {call, got, want}); }\n");
        code.append("static final int BAD = -1, STATE = -2, FULL = -3, NONE = -9;\n");
        for (int i = 0; i < blocks.size(); i++) {
            code.append("static void example").append(i).append("() {\n");
            for (String line : blocks.get(i).split("\n")) {
                code.append(withItsAnswerChecked(line)).append('\n');
            }
            code.append("}\n");
        }
        code.append("}\n");
        Path source = room.resolve("Example.java");
        Files.writeString(source, code);
        String classes = System.getProperty("java.class.path");
        int result = ToolProvider.getSystemJavaCompiler()
            .run(null, null, null, "-cp", classes, "-d", room.toString(), source.toString());
        Check.due("the examples compile", result, 0);
        if (result == 0) {
            run(room, blocks.size());
        }
    }

    private static String withItsAnswerChecked(String line) {
        Matcher m = ANSWER.matcher(line);
        if (m.matches()) {
            return "due(\"" + m.group(2).replace("\"", "\\\"") + "\", " + m.group(2) + ", " + m.group(3) + ");";
        }
        Check.isTrue("a call with its answer: " + line, !line.contains("//") && !line.matches("x\\..*"));
        return line;
    }

    private static void run(Path room, int examples) throws Exception {
        URL[] places = {room.toUri().toURL()};
        try (URLClassLoader loader = new URLClassLoader(places, ReadmeTest.class.getClassLoader())) {
            Class<?> example = loader.loadClass("Example");
            for (int i = 0; i < examples; i++) {
                Method one = example.getDeclaredMethod("example" + i);
                one.setAccessible(true);
                one.invoke(null);
            }
            var rows = example.getDeclaredField("rows");
            rows.setAccessible(true);
            for (Object row : (List<?>) rows.get(null)) {
                Object[] parts = (Object[]) row;
                Check.due("README.md: " + parts[0], (int) parts[1], (int) parts[2]);
            }
        }
    }

    /** Each command but .ci/run, which runs this test, in a folder that looks like the project's. */
    private static void commands(String readme, Path room) throws Exception {
        List<String> blocks = blocks(readme, "sh");
        Check.isTrue("there are commands", blocks.size() >= 2);
        Check.isTrue("the first is .ci/run", blocks.get(0).equals(".ci/run\n"));
        Check.isTrue(".ci/run can be executed", Files.isExecutable(Path.of(".ci/run")));
        Path project = Files.createDirectory(room.resolve("main"));
        Files.createSymbolicLink(project.resolve("src"), Path.of("src").toAbsolutePath());
        Files.createSymbolicLink(room.resolve("shared"), Path.of("../shared").toAbsolutePath());
        for (String block : blocks.subList(1, blocks.size())) {
            File log = room.resolve("log").toFile();
            Process shell = new ProcessBuilder("sh", "-e", "-c", block).directory(project.toFile())
                .redirectErrorStream(true).redirectOutput(log).start();
            boolean isEnded = shell.waitFor(300, TimeUnit.SECONDS);
            Check.isTrue("it ends: " + block, isEnded);
            if (!isEnded) {
                shell.destroyForcibly().waitFor();
            } else if (shell.exitValue() != 0) {
                System.out.print(Files.readString(log.toPath()));
            }
            Check.isTrue("it runs: " + block, isEnded && shell.exitValue() == 0);
        }
    }

    /** A row of the table for each call, with the names of as many numbers as it has. */
    private static void everyCallIsTold(String readme) {
        for (Method call : TrunkRadio.class.getDeclaredMethods()) {
            if (!Modifier.isPublic(call.getModifiers())) {
                continue;
            }
            Matcher row = Pattern.compile("(?m)^\\| `" + call.getName() + "\\(([^)]*)\\)` \\|").matcher(readme);
            boolean isTold = row.find();
            Check.isTrue("README.md tells of " + call.getName(), isTold);
            if (isTold) {
                int numbers = row.group(1).isEmpty() ? 0 : row.group(1).split(", ").length;
                Check.due("numbers of " + call.getName(), numbers, call.getParameterCount());
            }
        }
    }

    /** The last column of a call's row has those of BAD, STATE, FULL that the call's promise has, in their order. */
    private static void refusalsAreThoseOfTheDocument(String readme) throws IOException {
        Matcher promise = Pattern.compile("(?m)^`int (\\w+)\\(.*?\\)`: (.*)$")
            .matcher(Files.readString(Path.of("../shared/DOC.md")));
        int promises = 0;
        while (promise.find()) {
            String name = promise.group(1);
            Matcher row = Pattern.compile("(?m)^\\| `" + name + "\\(.*\\| *([^|]*?) *\\|$").matcher(readme);
            boolean isTold = row.find();
            String due = refusals(promise.group(2));
            Check.isTrue("refusals of " + name + ": " + due, isTold && refusals(row.group(1)).equals(due));
            promises++;
        }
        Check.due("promises of calls", promises, 24);
    }

    private static String refusals(String text) {
        Matcher m = Pattern.compile("\\b(BAD|STATE|FULL)\\b").matcher(text);
        StringBuilder all = new StringBuilder();
        while (m.find()) {
            all.append(m.group()).append(' ');
        }
        return all.toString();
    }

    private static void everyTestIsNamed(String readme) throws IOException {
        TreeSet<String> named = new TreeSet<>();
        Matcher m = Pattern.compile("`(\\w+Test)`").matcher(readme);
        while (m.find()) {
            named.add(m.group(1));
        }
        TreeSet<String> present = new TreeSet<>();
        try (Stream<Path> files = Files.list(Path.of("src/test/java"))) {
            files.map(f -> f.getFileName().toString()).filter(f -> f.endsWith("Test.java"))
                .forEach(f -> present.add(f.substring(0, f.length() - ".java".length())));
        }
        Check.isTrue("tests named " + named + ", tests there are " + present, named.equals(present));
    }

    private static void remove(Path room) throws IOException {
        List<Path> all;
        try (Stream<Path> walk = Files.walk(room)) {
            all = new ArrayList<>(walk.toList());
        }
        for (int i = all.size() - 1; i >= 0; i--) {
            Files.delete(all.get(i));
        }
    }
}
