import java.util.ArrayList;
import java.util.List;

/**
 * Tells whether a call leaves the state as it was: of two objects with the same past one gets the call and the other does
 * not, and then all that can be asked of them must be the same. What is not shown by a reader, the input and the snapshot, is brought
 * out by more calls first, each time on two new objects.
 */
final class Twins {
    private static final String[] OPENINGS = {
        "", "restoreSnapshot()", "removeTest(0); addTest()", "removeTest(0); feed(37); feed(50); addTest()", "removeTest(0); feed(50); addTest()",
    };
    private static final String[] SAMPLES = {"", "a", "b", "c", "ab", "ba", "ac", "cb", "abba", "abcab"};
    // Too long for any row, register or test that there is, so that a shrunken or grown one is seen.
    private static final int MOST_ELEMENTS = 22;

    private final Class<?> kind;
    private final List<Call> past;
    private final Call call;

    private Twins(Class<?> kind, List<Call> past, Call call) {
        this.kind = kind;
        this.past = past;
        this.call = call;
    }

    /** What is not the same after the call, or null. */
    static String difference(Class<?> kind, List<Call> past, Call call) {
        return new Twins(kind, new ArrayList<>(past), call).difference();
    }

    private String difference() {
        for (String opening : OPENINGS) {
            for (int look = 0; look < 3; look++) {
                String with = seen(true, opening, look);
                String without = seen(false, opening, look);
                if (!with.equals(without)) {
                    return "after " + opening + ": " + with + "; before: " + without;
                }
            }
        }
        return null;
    }

    private String seen(boolean called, String opening, int look) {
        Player player = Player.on(kind);
        for (Call earlier : past) {
            for (int i = 0; i < earlier.times(); i++) {
                player.answer(earlier);
            }
        }
        if (called) {
            player.answer(call);
        }
        StringBuilder seen = new StringBuilder();
        for (Call first : Call.readAll(opening)) {
            seen.append(player.answer(first)).append(' ');
        }
        switch (look) {
            case 0:
                lookAtRegisters(player, seen);
                break;
            case 1:
                lookAtSamples(player, seen);
                break;
            default:
                lookAtAutomata(player, seen);
        }
        return seen.toString();
    }

    private static void lookAtRegisters(Player player, StringBuilder seen) {
        seen.append("letters ").append(player.answer("letters"));
        for (int w = 0; w < 3; w++) {
            seen.append(" word ").append(player.answer(Call.read("text(" + w + ")"))).append(' ').append(player.answer("signature", w));
        }
        seen.append(" tests ").append(player.answer("testCount"));
        for (int t = 0; t < 7; t++) {
            for (int what = 0; what < 3; what++) {
                seen.append(' ').append(player.answer("test", t, what));
            }
        }
        for (int g = 0; g < 4; g++) {
            seen.append(" form ").append(player.answer("form", g));
        }
        lookAtRows(player, seen);
        seen.append(" input ").append(player.answer("feed", 1));
    }

    private static void lookAtRows(Player player, StringBuilder seen) {
        for (int r = 0; r < 3; r++) {
            seen.append(" row ").append(player.answer("setElement", r, -1, 0));
            seen.append(' ').append(player.answer("copyElements", r, 0, (r + 1) % 3, 0, 0)).append(':');
            for (int i = 0; i < MOST_ELEMENTS; i++) {
                seen.append(' ').append(player.answer("element", r, i));
            }
            player.answer("setElement", r, 0, 70000);
            seen.append(' ').append(player.answer("element", r, 0));
        }
    }

    /** Patterns and languages show by what they say of words. */
    private static void lookAtSamples(Player player, StringBuilder seen) {
        for (String sample : SAMPLES) {
            seen.append(' ').append(player.answer(Call.read("word(0, \"" + sample + "\")"))).append(':');
            for (int t = 0; t < 6; t++) {
                seen.append(' ').append(player.answer("value", t, 0));
            }
            for (int g = 0; g < 4; g++) {
                seen.append(' ').append(player.answer("contains", g, 0));
            }
        }
    }

    private static void lookAtAutomata(Player player, StringBuilder seen) {
        for (int t = 0; t < 6; t++) {
            seen.append(" test ").append(player.answer("states", t)).append(' ').append(player.answer("minimalStates", t));
        }
        for (int g = 0; g < 4; g++) {
            seen.append(" language ").append(player.answer("languageStates", g)).append(' ').append(player.answer("countWords", g, 5));
        }
    }
}
