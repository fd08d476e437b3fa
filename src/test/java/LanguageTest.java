import java.io.IOException;
import java.lang.reflect.Constructor;
import java.lang.reflect.Field;
import java.lang.reflect.Method;
import java.lang.reflect.Modifier;
import java.nio.file.Files;
import java.nio.file.Path;
import java.util.Set;
import java.util.TreeSet;
import java.util.regex.Matcher;
import java.util.regex.Pattern;

/** The public face as the document lists it, and what can be seen of the rules of LANGUAGE.md in the source and the class. */
public final class LanguageTest {
    private static final Path SOURCE = Path.of("src/main/java/SubwordCounter.java");
    private static final Path DOCUMENT = Path.of("../shared/DOC.md");
    private static int wrong = 0;

    public static void main(String[] args) throws IOException {
        checkFace();
        checkSignatures();
        Set<String> publicNames = new TreeSet<>();
        for (Method method : SubwordCounter.class.getMethods()) {
            if (method.getDeclaringClass() == SubwordCounter.class) {
                publicNames.add(method.getName());
            }
        }
        checkClass(SubwordCounter.class, publicNames);
        int classes = 1;
        for (Class<?> inside : SubwordCounter.class.getDeclaredClasses()) {
            classes++;
            expect(Modifier.isStatic(inside.getModifiers()) && !Modifier.isPublic(inside.getModifiers()), inside + " is not as rule 1 has it");
            checkClass(inside, publicNames);
        }
        expect(classes <= 12, classes + " classes");
        checkSource(bare(Files.readString(SOURCE)));
        System.out.println(wrong == 0 ? "the class keeps to its language" : wrong + " faults");
        if (wrong != 0) {
            System.exit(1);
        }
    }

    private static void expect(boolean holds, String fault) {
        if (!holds) {
            wrong++;
            System.out.println(fault);
        }
    }

    private static void checkFace() throws IOException {
        Set<String> due = new TreeSet<>();
        String document = Files.readString(DOCUMENT);
        String block = document.substring(document.indexOf("```java"), document.indexOf("```", document.indexOf("```java") + 3));
        for (String line : block.split("\n")) {
            if (line.startsWith("    public")) {
                due.add(line.trim().replaceAll("(int|long) \\w+([,)])", "$1$2"));
            }
        }
        expect(due.size() > 50, "the document's face was not found");
        expect(due.equals(face()), "the face is " + face() + ", due is " + due);
    }

    /** Each promise begins with a signature, whose arguments bear the names that the promise uses. */
    private static void checkSignatures() throws IOException {
        String source = Files.readString(SOURCE);
        Matcher signatures = Pattern.compile("(?m)^## Promise \\d+: .*\\R\\R`(.*)`$").matcher(Files.readString(DOCUMENT));
        int found = 0;
        while (signatures.find()) {
            found++;
            expect(source.contains("    public " + signatures.group(1) + " {\n"), "the source has no " + signatures.group(1));
        }
        expect(found == 44, "the document has " + found + " signatures");
    }

    /** The visible members, written as in the document but without the names of the arguments. */
    private static Set<String> face() {
        Set<String> found = new TreeSet<>();
        for (Field field : SubwordCounter.class.getDeclaredFields()) {
            if (!Modifier.isPrivate(field.getModifiers())) {
                found.add(Modifier.toString(field.getModifiers()) + " " + field.getType() + " " + field.getName() + " = " + valueOf(field) + ";");
            }
        }
        for (Method method : SubwordCounter.class.getDeclaredMethods()) {
            if (!Modifier.isPrivate(method.getModifiers())) {
                found.add(Modifier.toString(method.getModifiers()) + " " + method.getReturnType() + " " + method.getName()
                    + "(" + types(method.getParameterTypes()) + ");");
            }
        }
        for (Constructor<?> constructor : SubwordCounter.class.getDeclaredConstructors()) {
            found.add(Modifier.toString(constructor.getModifiers()) + " SubwordCounter(" + types(constructor.getParameterTypes()) + ");");
        }
        return found;
    }

    private static String valueOf(Field field) {
        try {
            return String.valueOf(field.get(null));
        } catch (IllegalAccessException e) {
            return e.toString();
        }
    }

    private static String types(Class<?>[] types) {
        StringBuilder text = new StringBuilder();
        for (Class<?> type : types) {
            text.append(text.length() == 0 ? "" : ", ").append(type);
        }
        return text.toString();
    }

    private static void checkClass(Class<?> read, Set<String> publicNames) {
        int fields = 0;
        for (Field field : read.getDeclaredFields()) {
            if (Modifier.isStatic(field.getModifiers())) {
                expect(Modifier.isFinal(field.getModifiers()), field + " can change");
            } else {
                fields++;
            }
        }
        expect(fields <= 20, read + " has " + fields + " fields");
        for (Method method : read.getDeclaredMethods()) {
            expect(read == SubwordCounter.class && Modifier.isPublic(method.getModifiers()) || !publicNames.contains(method.getName()),
                method + " has the name of a public method");
            expect(method.getParameterCount() <= 7, method + " takes too much");
        }
    }

    /** The source without comments and without what stands in quotes. */
    private static String bare(String source) {
        return source.replaceAll("(?s)/\\*.*?\\*/", "").replaceAll("//[^\n]*", "").replaceAll("'[^']*'", "' '").replaceAll("\"[^\"\n]*\"", "\"\"");
    }

    private static void checkSource(String source) {
        String[] out = {"\\bthrow\\b", "\\btry\\b", "\\bcatch\\b", "\\bsynchronized\\b", "\\bassert\\b", "\\bpackage\\b", "->", "::", "\\bExact\\(",
            "\\bThread\\b", "\\bRandom\\b", "\\bcurrentTimeMillis\\b", "\\bnanoTime\\b", "\\.equals\\(", "\\bhashCode\\b", "\\btoString\\b", "static \\{"};
        for (String word : out) {
            expect(!Pattern.compile(word).matcher(source).find(), "the source has " + word);
        }
        Matcher imports = Pattern.compile("import ([\\w.*]+);").matcher(source);
        while (imports.find()) {
            expect(imports.group(1).equals("java.util.Arrays"), "the source imports " + imports.group(1));
        }
        Matcher library = Pattern.compile("\\b(System|Arrays|Math|Integer|Long|String|Character|Object)\\.(\\w+)").matcher(source);
        Set<String> known = Set.of("System.arraycopy", "Arrays.fill", "Math.min", "Math.max");
        while (library.find()) {
            expect(known.contains(library.group()), "the source uses " + library.group());
        }
        // Each loop tells its end by a bound of its own, so plain for loops are all there are.
        expect(!Pattern.compile("\\bwhile\\b|\\bdo\\b").matcher(source).find(), "the source has a loop without a counter");
        checkMethodLengths(source);
    }

    private static void checkMethodLengths(String source) {
        String[] lines = source.split("\n");
        for (int i = 0; i < lines.length; i++) {
            Matcher head = Pattern.compile("^( {4}| {8})(\\w[^=;]*\\)) \\{$").matcher(lines[i]);
            if (head.matches()) {
                int end = i;
                while (end < lines.length && !lines[end].equals(head.group(1) + "}")) {
                    end++;
                }
                expect(end - i < 60, head.group(2) + " is too long");
            }
        }
    }
}
