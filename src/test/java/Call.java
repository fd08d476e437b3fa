import java.util.ArrayList;
import java.util.List;
import java.util.regex.Matcher;
import java.util.regex.Pattern;

/**
 * A call as the document writes it, with the answer that is due: "append(0, 0) = 1". With ! in place of = the call must also
 * leave the state as it was, and "500 x complement(0, 0) = 1" stands for so many calls.
 */
record Call(String text, int times, String method, List<String> arguments, boolean keepsState, String due) {
    private static final Pattern FORM =
        Pattern.compile("(?:(\\d+) x )?(\\w+)\\(([^)]*)\\)\\s*(?:([=!])\\s*(\\S+))?");

    static Call read(String text) {
        Matcher parts = FORM.matcher(text.trim());
        if (!parts.matches()) {
            throw new IllegalArgumentException("not a call: " + text);
        }
        int times = parts.group(1) == null ? 1 : Integer.parseInt(parts.group(1));
        String due = parts.group(5) == null ? null : number(parts.group(5));
        return new Call(text.trim(), times, parts.group(2), split(parts.group(3)), "!".equals(parts.group(4)), due);
    }

    /** The calls of some lines, which are separated by semicolons. */
    static List<Call> readAll(String... lines) {
        List<Call> found = new ArrayList<>();
        for (String line : lines) {
            for (String text : line.split(";")) {
                if (!text.isBlank()) {
                    found.add(read(text));
                }
            }
        }
        return found;
    }

    private static List<String> split(String list) {
        List<String> found = new ArrayList<>();
        for (String part : list.split(",")) {
            if (!part.isBlank()) {
                found.add(number(part.trim()));
            }
        }
        return found;
    }

    /** Numbers may be written by the constants' names, MAX and MIN for the ends of int, and NOTHING for Long.MIN_VALUE. */
    private static String number(String text) {
        switch (text) {
            case "BAD_ARGUMENT":
                return "-1";
            case "NONE":
                return "-2";
            case "FULL":
                return "-3";
            case "TOO_LARGE":
                return "-4";
            case "EMPTY_REGISTER":
                return "-5";
            case "TYPE_MISMATCH":
                return "-6";
            case "NULL_ROW":
                return "-11";
            case "INDEX_OUT_OF_RANGE":
                return "-13";
            case "NEGATIVE_SIZE":
                return "-14";
            case "NOTHING":
                return String.valueOf(Long.MIN_VALUE);
            case "MAX":
                return String.valueOf(Integer.MAX_VALUE);
            case "MIN":
                return String.valueOf(Integer.MIN_VALUE);
            default:
                return text;
        }
    }
}
