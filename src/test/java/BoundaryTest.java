import java.io.IOException;
import java.nio.file.Files;
import java.nio.file.Path;
import java.util.ArrayList;
import java.util.List;
import java.util.Map;
import java.util.TreeMap;

/**
 * Plays the examples of the document, and src/test/boundaries.txt: under each sentence of the document the runs of calls that show it at its bounds. A sentence of the
 * document that has no runs there, and one there that the document has not, are faults too. With the argument "reference" the
 * runs are played on Reference instead, which shows that the answers that are due do not come from the program.
 */
public final class BoundaryTest {
    private static final Path RUNS = Path.of("src/test/boundaries.txt");
    private static final Path DOCUMENT = Path.of("../shared/DOC.md");
    private static final String INDENT = "    ";

    private final Class<?> kind;
    private final Map<String, DocumentSection> document;
    private final List<String> rich = new ArrayList<>();
    private String section = "";
    private String sentence = "";
    private final List<String> run = new ArrayList<>();
    private boolean sentenceIsOpen = false;
    private int runs = 0;
    private int wrong = 0;

    private BoundaryTest(Class<?> kind, Map<String, DocumentSection> document) {
        this.kind = kind;
        this.document = document;
    }

    public static void main(String[] args) throws IOException {
        Class<?> kind = args.length > 0 && args[0].equals("reference") ? Reference.class : SubwordCounter.class;
        String document = Files.readString(DOCUMENT);
        BoundaryTest test = new BoundaryTest(kind, DocumentSection.readAll(document));
        test.playExamples(DocumentSection.examples(document));
        for (String line : Files.readAllLines(RUNS)) {
            test.take(line);
        }
        test.endRun();
        test.checkNothingIsMissing();
        System.out.println(test.wrong == 0 ? test.runs + " runs at the bounds are as due" : test.wrong + " faults");
        if (test.wrong != 0) {
            System.exit(1);
        }
    }

    private void playExamples(Map<String, String> examples) {
        for (Map.Entry<String, String> example : examples.entrySet()) {
            runs++;
            wrong += Script.run(kind, example.getKey(), example.getValue());
        }
    }

    private void take(String line) {
        if (line.isBlank() || line.trim().startsWith("//")) {
            return;
        }
        if (line.startsWith("== ")) {
            endRun();
            section = line.substring(3);
            sentence = "";
            return;
        }
        if (line.startsWith(INDENT)) {
            takeCalls(line.trim());
            return;
        }
        endRun();
        // A sentence may go on in the next line.
        sentence = sentenceIsOpen ? sentence + " " + line.trim() : line.trim();
        sentenceIsOpen = true;
    }

    private void takeCalls(String line) {
        if (section.equals("rich")) {
            rich.add(line);
            return;
        }
        openRun();
        if (line.equals("new")) {
            endRun();
        } else if (line.equals("rich")) {
            run.addAll(rich);
        } else {
            run.add(line);
        }
    }

    private void openRun() {
        if (!sentenceIsOpen) {
            return;
        }
        sentenceIsOpen = false;
        if (!document.containsKey(section) || !document.get(section).quote(sentence)) {
            fault("the document has no such sentence");
        }
    }

    private void endRun() {
        if (!run.isEmpty()) {
            runs++;
            wrong += Script.run(kind, section + ", \"" + sentence + "\"", run.toArray(new String[0]));
            run.clear();
        }
    }

    private void checkNothingIsMissing() {
        for (Map.Entry<String, DocumentSection> entry : new TreeMap<>(document).entrySet()) {
            section = entry.getKey();
            for (String missing : entry.getValue().unquoted()) {
                sentence = missing;
                fault("has no runs");
            }
        }
    }

    private void fault(String what) {
        wrong++;
        System.out.println(section + ", \"" + sentence + "\": " + what);
    }
}
