import java.io.IOException;
import java.io.UncheckedIOException;
import java.lang.reflect.Method;
import java.lang.reflect.Modifier;
import java.nio.charset.StandardCharsets;
import java.nio.file.Files;
import java.nio.file.Path;
import java.util.ArrayList;
import java.util.Comparator;
import java.util.List;
import java.util.stream.Stream;

/** What README.md says holds when it is done as it stands there, in a copy of the directory that it is in. */
public final class ReadmeTest extends Check {
    private static final Path README = Path.of("README.md");
    private static final Path TESTS = Path.of("src", "test", "java");

    /** What stands between two fences, and the word behind the first one. */
    private record Block(String kind, String text) {
    }

    /** Input and output that fails ends the test that needs it. */
    private interface Work<T> {
        T done() throws IOException, InterruptedException;
    }

    private static <T> T of(Work<T> work) {
        try {
            return work.done();
        } catch (IOException e) {
            throw new UncheckedIOException(e);
        } catch (InterruptedException e) {
            throw new IllegalStateException(e);
        }
    }

    private static List<Block> blocks() {
        List<Block> blocks = new ArrayList<>();
        String kind = null;
        StringBuilder text = new StringBuilder();
        for (String line : of(() -> Files.readAllLines(README))) {
            if (!line.startsWith("```")) {
                text.append(line).append('\n');
                continue;
            }
            if (kind != null) {
                blocks.add(new Block(kind, text.toString()));
            }
            kind = kind == null ? line.substring(3) : null;
            text.setLength(0);
        }
        return blocks;
    }

    private static void doAll() {
        Path place = of(() -> Files.createTempDirectory("readme"));
        copy(Path.of("src"), place.resolve("src"));
        String printed = "";
        StringBuilder kinds = new StringBuilder();
        for (Block block : blocks()) {
            kinds.append(block.kind()).append(' ');
            switch (block.kind()) {
                case "java" -> write(place.resolve("build").resolve("Example.java"), block.text());
                case "sh" -> printed = doCommands(place, block.text());
                default -> due("what is printed", printed, block.text());
            }
        }
        due("the blocks", kinds.toString(), "java sh text sh sh sh ");
        remove(place);
    }

    private static String doCommands(Path place, String commands) {
        if (commands.equals(".ci/run\n")) {
            // It runs this test, so it is not run by it.
            due(".ci/run can be run", Files.isExecutable(Path.of(".ci", "run")), true);
            return "";
        }
        ProcessBuilder shell = new ProcessBuilder("sh", "-e", "-c", commands);
        shell.directory(place.toFile()).redirectError(ProcessBuilder.Redirect.INHERIT);
        Process process = of(() -> shell.start());
        String printed = new String(of(() -> process.getInputStream().readAllBytes()), StandardCharsets.UTF_8);
        int code = of(() -> process.waitFor());
        due("the exit code of " + commands + "which printed " + printed, code, 0);
        return printed;
    }

    private static void write(Path file, String text) {
        of(() -> Files.createDirectories(file.getParent()));
        of(() -> Files.writeString(file, text));
    }

    private static List<Path> allIn(Path directory) {
        return of(() -> {
            try (Stream<Path> all = Files.walk(directory)) {
                return all.toList();
            }
        });
    }

    private static void copy(Path from, Path to) {
        for (Path path : allIn(from)) {
            of(() -> Files.copy(path, to.resolve(from.relativize(path).toString())));
        }
    }

    private static void remove(Path directory) {
        for (Path path : allIn(directory).stream().sorted(Comparator.reverseOrder()).toList()) {
            of(() -> Files.deleteIfExists(path));
        }
    }

    private static void namesCalls() {
        String text = of(() -> Files.readString(README));
        for (Method method : ProofWorkbench.class.getDeclaredMethods()) {
            if (Modifier.isPublic(method.getModifiers())) {
                String name = "`" + method.getName() + "()`";
                due("it has " + name, text.contains(name), true);
            }
        }
    }

    private static void namesTests() {
        String text = of(() -> Files.readString(README));
        for (Path path : allIn(TESTS)) {
            String name = path.getFileName().toString();
            if (name.endsWith(".java")) {
                String told = "`" + name.substring(0, name.length() - 5) + "`";
                due("it has " + told, text.contains(told), true);
            }
        }
    }

    public static void main(String[] args) {
        test("README.md: what it says holds when it is done", () -> doAll());
        test("README.md: how to use the class", () -> namesCalls());
        test("README.md: what the tests look at", () -> namesTests());
        end("claims of README.md");
    }
}
