import java.io.IOException;
import java.nio.charset.StandardCharsets;
import java.nio.file.Files;
import java.nio.file.Path;
import java.util.ArrayList;
import java.util.List;
import java.util.stream.Stream;

/**
 * Tries README.md as it stands: its Java program is put where the text says, its commands are run one after the other, and what
 * they print must be what the next block of text says. All that happens in a directory that is made for it and removed afterwards.
 */
public final class ReadmeTest {
    private static final Path README = Path.of("README.md");
    private static final String FENCE = "```";
    // The command that runs this test; it would run itself without an end.
    private static final String ALL_TESTS = ".ci/run";

    private final Path place;
    private String printed = "";
    private int commands = 0;
    private boolean allTestsNamed = false;
    private int wrong = 0;

    private ReadmeTest(Path place) {
        this.place = place;
    }

    public static void main(String[] args) throws IOException, InterruptedException {
        Path scratch = Files.createTempDirectory("readme");
        Path place = Files.createDirectory(scratch.resolve("main"));
        try {
            Files.createSymbolicLink(scratch.resolve("shared"), Path.of("../shared").toRealPath());
            Files.createSymbolicLink(place.resolve("src"), Path.of("src").toRealPath());
            ReadmeTest test = new ReadmeTest(place);
            test.tryAll(Files.readAllLines(README));
            System.out.println(test.wrong == 0 ? test.commands + " commands do what README.md says" : test.wrong + " faults");
            if (test.wrong != 0) {
                remove(scratch);
                System.exit(1);
            }
        } finally {
            remove(scratch);
        }
    }

    private void tryAll(List<String> lines) throws IOException, InterruptedException {
        List<String> block = new ArrayList<>();
        String kind = null;
        for (String line : lines) {
            if (kind == null) {
                kind = line.startsWith(FENCE) ? line.substring(FENCE.length()) : null;
            } else if (line.equals(FENCE)) {
                take(kind, block);
                block.clear();
                kind = null;
            } else {
                block.add(line);
            }
        }
        expect(kind == null, "a block has no end");
        expect(commands >= 6, "only " + commands + " commands were found");
        expect(allTestsNamed, ALL_TESTS + " is not named");
    }

    private void take(String kind, List<String> block) throws IOException, InterruptedException {
        switch (kind) {
            case "java":
                Files.write(place.resolve("Example.java"), block);
                break;
            case "sh":
                printed = "";
                for (String command : block) {
                    run(command);
                }
                break;
            case "text":
                String due = String.join("\n", block) + "\n";
                expect(printed.equals(due), "printed is\n" + printed + "due is\n" + due);
                break;
            default:
                expect(false, "a block of an unknown kind: " + kind);
        }
    }

    private void run(String command) throws IOException, InterruptedException {
        if (command.equals(ALL_TESTS)) {
            allTestsNamed = true;
            expect(Files.isExecutable(Path.of(ALL_TESTS)), ALL_TESTS + " cannot be run");
            return;
        }
        Process process = new ProcessBuilder("sh", "-c", command).directory(place.toFile()).redirectErrorStream(true).start();
        process.getOutputStream().close();
        String said = new String(process.getInputStream().readAllBytes(), StandardCharsets.UTF_8);
        printed += said;
        commands++;
        int code = process.waitFor();
        expect(code == 0, command + " ended with " + code + ":\n" + said);
    }

    private void expect(boolean holds, String fault) {
        if (!holds) {
            wrong++;
            System.out.println("README.md: " + fault);
        }
    }

    /** Links are removed, not what they lead to. */
    private static void remove(Path path) throws IOException {
        if (Files.isDirectory(path) && !Files.isSymbolicLink(path)) {
            List<Path> inside = new ArrayList<>();
            try (Stream<Path> listed = Files.list(path)) {
                listed.forEach(inside::add);
            }
            for (Path part : inside) {
                remove(part);
            }
        }
        Files.deleteIfExists(path);
    }
}
