import java.util.ArrayList;
import java.util.LinkedHashMap;
import java.util.List;
import java.util.Map;
import java.util.Set;
import java.util.TreeSet;
import java.util.regex.Matcher;
import java.util.regex.Pattern;

/**
 * One section of the document, such as the Description or a promise, in the parts that each want a test: the sentences of its text, what it says
 * of each argument, and each part of its line "Returns .." between semicolons.
 */
final class DocumentSection {
    private final String whole;
    private final List<String> sentences = new ArrayList<>();
    private final List<String> parts = new ArrayList<>();
    private final Set<String> quotes = new TreeSet<>();

    private DocumentSection(String body) {
        whole = oneLine(body);
        String[] blocks = body.split("\n\\s*\n");
        int last = blocks.length - 1;
        for (int i = 0; i < blocks.length; i++) {
            String block = blocks[i].trim();
            if (block.startsWith("- ")) {
                takeArguments(block);
            } else if (i == last && block.startsWith("Returns ")) {
                takeReturns(oneLine(block));
            } else if (!block.startsWith("`") && !block.startsWith("----")) {
                takeSentences(oneLine(block));
            }
        }
    }

    /** The sections that say how the class behaves, by their names: What it is, Description, Promise 1 and so on. */
    static Map<String, DocumentSection> readAll(String document) {
        Map<String, DocumentSection> found = new LinkedHashMap<>();
        Matcher heads = Pattern.compile("(?ms)^## (What it is|Description|Promise \\d+)[^\n]*\n(.*?)(?=^## |\\z)").matcher(document);
        while (heads.find()) {
            found.put(heads.group(1), new DocumentSection(withoutExamples(heads.group(2))));
        }
        if (found.size() != 46) {
            throw new IllegalStateException("the document has " + found.size() + " sections");
        }
        return found;
    }

    /** The calls of each example, by what the example is said to be of. */
    static Map<String, String> examples(String document) {
        Map<String, String> found = new LinkedHashMap<>();
        Matcher all = Pattern.compile("(?s)Examples, each with a new object: calls and their results\\.(.*?)The constants:").matcher(document);
        if (!all.find()) {
            throw new IllegalStateException("the document has no examples");
        }
        for (String block : all.group(1).trim().split("\n\\s*\n")) {
            String[] parts = oneLine(block).split(": ", 2);
            found.put(parts[0], withoutStop(parts[1]));
        }
        return found;
    }

    /** The examples are played as they stand there; what follows them are the constants. */
    private static String withoutExamples(String body) {
        return body.replaceAll("(?s)Examples, each with a new object.*The constants:", "")
            .replace("The constructor and the methods follow, a promise each: the signature, then what it does.", "");
    }

    private void takeArguments(String block) {
        for (String line : block.split("\n")) {
            parts.add(oneLine(line.substring(2)));
        }
    }

    private void takeReturns(String line) {
        for (String part : withoutStop(line).split(";")) {
            parts.add(part.trim());
        }
    }

    private void takeSentences(String text) {
        for (String sentence : text.split("(?<=\\.) (?=[A-Z])")) {
            // A paragraph of the Description begins with its heading.
            if (!sentence.isBlank() && !sentence.matches("\\w+\\.")) {
                sentences.add(sentence);
            }
        }
    }

    /** Whether the section says this; it counts as tested then. */
    boolean quote(String words) {
        quotes.add(words);
        return whole.contains(words);
    }

    /** What no test quotes: a sentence of the text may stand in a longer quotation, the other parts stand alone. */
    List<String> unquoted() {
        List<String> found = new ArrayList<>();
        for (String sentence : sentences) {
            boolean known = false;
            for (String quote : quotes) {
                known = known || quote.contains(sentence);
            }
            if (!known) {
                found.add(sentence);
            }
        }
        for (String part : parts) {
            if (!quotes.contains(part)) {
                found.add(part);
            }
        }
        return found;
    }

    private static String withoutStop(String text) {
        return text.endsWith(".") ? text.substring(0, text.length() - 1) : text;
    }

    private static String oneLine(String text) {
        return text.trim().replaceAll("\\s+", " ");
    }
}
