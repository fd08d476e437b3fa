import java.lang.reflect.InvocationTargetException;
import java.lang.reflect.Method;
import java.util.ArrayList;
import java.util.HashMap;
import java.util.List;
import java.util.Map;
import java.util.regex.Matcher;
import java.util.regex.Pattern;

/**
 * Runs calls that are written as in the document, "append(0, 0) = 1; length(0) = 1", on a new SubwordCounter, and counts the
 * answers that are not due. Two short forms stand for several calls: add("ab%3") = 0 feeds the bytes and calls addTest, and
 * word(0, "ab") = 2 clears a word and appends the letters; text(0) = "ab" reads a word.
 */
final class Script {
    private static final Pattern CALL = Pattern.compile("\\s*(\\w+)\\(([^)]*)\\)\\s*=\\s*(\\S+|\"[^\"]*\")\\s*");
    private static final Map<String, Method> METHODS = methods();

    private final SubwordCounter object = new SubwordCounter();
    private final String name;
    private int wrong = 0;

    private Script(String name) {
        this.name = name;
    }

    /** The number of wrong answers in a run of calls on a new object. */
    static int run(String name, String... lines) {
        Script script = new Script(name);
        for (String line : lines) {
            for (String call : line.split(";")) {
                if (!call.isBlank()) {
                    script.check(call);
                }
            }
        }
        return script.wrong;
    }

    private void check(String call) {
        Matcher parts = CALL.matcher(call);
        if (!parts.matches()) {
            throw new IllegalArgumentException("not a call: " + call);
        }
        String got;
        try {
            got = answer(parts.group(1), arguments(parts.group(2)));
        } catch (InvocationTargetException e) {
            got = e.getCause().toString();
        } catch (IllegalAccessException e) {
            got = e.toString();
        }
        if (!got.equals(due(parts.group(3)))) {
            wrong++;
            System.out.println(name + ": " + call.trim() + " answered " + got);
        }
    }

    private String answer(String method, List<String> arguments) throws InvocationTargetException, IllegalAccessException {
        switch (method) {
            case "add":
                for (char c : unquoted(arguments.get(0)).toCharArray()) {
                    object.feed(c);
                }
                return String.valueOf(object.addTest());
            case "word":
                int word = Integer.parseInt(arguments.get(0));
                object.clearWord(word);
                for (char c : unquoted(arguments.get(1)).toCharArray()) {
                    object.append(word, c - 'a');
                }
                return String.valueOf(object.length(word));
            case "text":
                return text(Integer.parseInt(arguments.get(0)));
            default:
                return String.valueOf(METHODS.get(method).invoke(object, numbers(arguments)));
        }
    }

    private String text(int word) {
        StringBuilder read = new StringBuilder("\"");
        for (int i = 0; i < object.length(word); i++) {
            read.append((char) ('a' + object.letter(word, i)));
        }
        return read.append('"').toString();
    }

    private static List<String> arguments(String list) {
        List<String> found = new ArrayList<>();
        for (String part : list.split(",")) {
            if (!part.isBlank()) {
                found.add(part.trim());
            }
        }
        return found;
    }

    private static Object[] numbers(List<String> arguments) {
        Object[] found = new Object[arguments.size()];
        for (int i = 0; i < found.length; i++) {
            found[i] = Integer.valueOf(number(arguments.get(i)));
        }
        return found;
    }

    private static String number(String text) {
        switch (text) {
            case "MAX":
                return String.valueOf(Integer.MAX_VALUE);
            case "MIN":
                return String.valueOf(Integer.MIN_VALUE);
            default:
                return text;
        }
    }

    /** Answers may be written by the constants' names, and NOTHING for Long.MIN_VALUE. */
    private static String due(String text) {
        switch (text) {
            case "BAD_ARGUMENT":
                return "-1";
            case "NONE":
                return "-2";
            case "FULL":
                return "-3";
            case "TOO_LARGE":
                return "-4";
            case "EMPTY_REGISTER":
                return "-5";
            case "TYPE_MISMATCH":
                return "-6";
            case "NULL_ROW":
                return "-11";
            case "INDEX_OUT_OF_RANGE":
                return "-13";
            case "NEGATIVE_SIZE":
                return "-14";
            case "NOTHING":
                return String.valueOf(Long.MIN_VALUE);
            default:
                return text;
        }
    }

    private static String unquoted(String text) {
        return text.substring(1, text.length() - 1);
    }

    private static Map<String, Method> methods() {
        Map<String, Method> found = new HashMap<>();
        for (Method method : SubwordCounter.class.getDeclaredMethods()) {
            found.put(method.getName(), method);
        }
        return found;
    }
}
