import java.lang.reflect.InvocationTargetException;
import java.lang.reflect.Method;
import java.util.ArrayList;
import java.util.List;
import java.util.Map;
import java.util.Random;

/**
 * Compares the program with the naive Reference: runs of 512 calls with arguments that a fixed seed draws, mostly valid ones.
 * After each call all that the readers tell must be the same too. Arguments: the number of runs, the first seed.
 */
public final class ReferenceTest {
    // Each method with what its arguments are, and how often it is drawn.
    private static final String[] CALLS = {
        "setLetters k 1", "letters - 1", "append wl 60", "clearWord w 6", "length w 1", "letter wi 3", "reverse w 6",
        "concatenate ww 8", "compare ww 12", "occurrences ww 14", "separate ww 12", "feed b 8", "addTest - 4", "removeTest t 5",
        "testCount - 1", "test ta 5", "value tw 15", "signature w 8", "classes n 5", "classSize ns 5", "findCollision - 4",
        "states t 6", "minimalStates t 6", "monoidSize t 6", "isGroup t 6", "setBasic gtv 30", "complement gg 8",
        "intersect ggg 10", "unite ggg 10", "clearLanguage g 2", "form g 3", "contains gw 12", "languageStates g 6",
        "countWords gm 6", "firstWord gw 6", "firstDifference ggw 8", "newRow ryz 8", "setElement riv 8", "element ri 4",
        "copyElements ririn 10", "fillCounts rg 4", "saveSnapshot - 2", "restoreSnapshot - 2", "TEST - 25",
    };
    private static final Map<String, Method> PROGRAM = Player.methods(SubwordCounter.class);
    private static final Map<String, Method> REFERENCE = Player.methods(Reference.class);

    private final Random random;
    private final long seed;
    private final SubwordCounter program = new SubwordCounter();
    private final Reference reference = new Reference();
    private final List<String> history = new ArrayList<>();
    private boolean wrong = false;

    private ReferenceTest(long seed) {
        this.seed = seed;
        this.random = new Random(seed);
    }

    public static void main(String[] args) throws ReflectiveOperationException {
        int runs = args.length > 0 ? Integer.parseInt(args[0]) : 150;
        long first = args.length > 1 ? Long.parseLong(args[1]) : 1;
        for (long seed = first; seed < first + runs; seed++) {
            ReferenceTest run = new ReferenceTest(seed);
            run.play();
            if (run.wrong) {
                System.exit(1);
            }
        }
        System.out.println(runs + " runs are as the reference has them");
    }

    private void play() throws ReflectiveOperationException {
        if (random.nextInt(3) > 0) {
            call("setLetters", 1 + random.nextInt(3));
        }
        while (history.size() < 512 && !wrong) {
            String[] drawn = draw();
            if (drawn[0].equals("TEST")) {
                feedTest();
                continue;
            }
            int[] arguments = new int[drawn[1].equals("-") ? 0 : drawn[1].length()];
            for (int i = 0; i < arguments.length; i++) {
                arguments[i] = argument(drawn[1].charAt(i));
            }
            call(drawn[0], arguments);
        }
    }

    private String[] draw() {
        int sum = 0;
        for (String line : CALLS) {
            sum += Integer.parseInt(line.split(" ")[2]);
        }
        int at = random.nextInt(sum);
        for (String line : CALLS) {
            at -= Integer.parseInt(line.split(" ")[2]);
            if (at < 0) {
                return line.split(" ");
            }
        }
        throw new IllegalStateException();
    }

    private void feedTest() throws ReflectiveOperationException {
        StringBuilder text = new StringBuilder();
        if (random.nextInt(5) == 0) {
            text.append("#%");
        } else {
            int length = 1 + random.nextInt(random.nextInt(20) == 0 ? 5 : random.nextBoolean() ? 2 : 4);
            for (int i = 0; i < length; i++) {
                text.append((char) ('a' + random.nextInt(random.nextInt(30) == 0 ? 3 : reference.letters())));
            }
            text.append(random.nextBoolean() ? '%' : '^');
        }
        text.append(random.nextInt(15) == 0 ? random.nextInt(10) : 2 + random.nextInt(random.nextBoolean() ? 3 : 8));
        if (random.nextInt(20) == 0) {
            text.append(random.nextInt(10));
        }
        for (int i = 0; i < text.length(); i++) {
            call("feed", text.charAt(i));
        }
        call("addTest");
    }

    private int argument(char what) {
        if (random.nextInt(60) == 0) {
            int[] wild = {-1, Integer.MIN_VALUE, Integer.MAX_VALUE, 3, 4, 100, -2};
            return wild[random.nextInt(wild.length)];
        }
        switch (what) {
            case 'k':
                return random.nextInt(5);
            case 'w':
            case 'r':
                return random.nextInt(3);
            case 'l':
                return random.nextInt(Math.min(3, reference.letters() + random.nextInt(12) / 11));
            case 'i':
                return random.nextInt(13) - random.nextInt(20) / 19;
            case 'b':
                return "ab%^#23\u0000\u007f".charAt(random.nextInt(9));
            case 't':
                return random.nextInt(Math.max(1, reference.testCount() + random.nextInt(10) / 9));
            case 'a':
                return random.nextInt(3);
            case 'n':
                return random.nextInt(9) - random.nextInt(2);
            case 's':
                return random.nextInt(2) * random.nextInt(100);
            case 'g':
                return random.nextInt(4);
            case 'v':
                return random.nextInt(5) == 0 ? random.nextInt() : random.nextInt(4);
            case 'm':
                return random.nextInt(22);
            case 'y':
                return random.nextInt(4) - random.nextInt(8) / 7;
            case 'z':
                return random.nextInt(24) - random.nextInt(3);
            default:
                throw new IllegalStateException();
        }
    }

    private void call(String name, int... arguments) throws ReflectiveOperationException {
        if (wrong || history.size() >= 512) {
            return;
        }
        StringBuilder text = new StringBuilder(name).append('(');
        for (int i = 0; i < arguments.length; i++) {
            text.append(i == 0 ? "" : ", ").append(arguments[i]);
        }
        text.append(')');
        String due = answer(REFERENCE, reference, name, arguments);
        String got = answer(PROGRAM, program, name, arguments);
        history.add(text + " = " + due);
        if (!got.equals(due)) {
            tell(text + " answered " + got + ", due is " + due);
        } else {
            compareStates(text.toString());
        }
    }

    private void compareStates(String after) throws ReflectiveOperationException {
        String due = observe(REFERENCE, reference);
        String got = observe(PROGRAM, program);
        if (!got.equals(due)) {
            tell("after " + after + " the state is " + got + ", due is " + due);
        }
    }

    private static String observe(Map<String, Method> methods, Object object) throws ReflectiveOperationException {
        StringBuilder seen = new StringBuilder("letters ").append(answer(methods, object, "letters"));
        for (int w = 0; w < 3; w++) {
            seen.append(", word ");
            for (int i = 0; i < Integer.parseInt(answer(methods, object, "length", w)); i++) {
                seen.append(answer(methods, object, "letter", w, i));
            }
        }
        for (int t = 0; t < Integer.parseInt(answer(methods, object, "testCount")); t++) {
            seen.append(", test ");
            for (int what = 0; what < 3; what++) {
                seen.append(answer(methods, object, "test", t, what)).append(' ');
            }
        }
        for (int g = 0; g < 4; g++) {
            seen.append(", form ").append(answer(methods, object, "form", g));
            for (int w = 0; w < 3; w++) {
                seen.append(' ').append(answer(methods, object, "contains", g, w));
            }
        }
        for (int r = 0; r < 3; r++) {
            seen.append(", row ");
            for (int i = 0; i < 22; i++) {
                String element = answer(methods, object, "element", r, i);
                seen.append(element.equals(String.valueOf(Long.MIN_VALUE)) ? "-" : element + " ");
            }
        }
        return seen.toString();
    }

    private static String answer(Map<String, Method> methods, Object object, String name, int... arguments)
            throws ReflectiveOperationException {
        Object[] boxed = new Object[arguments.length];
        for (int i = 0; i < boxed.length; i++) {
            boxed[i] = arguments[i];
        }
        try {
            return String.valueOf(methods.get(name).invoke(object, boxed));
        } catch (InvocationTargetException e) {
            e.getCause().printStackTrace(System.out);
            return e.getCause().toString();
        }
    }

    private void tell(String what) {
        wrong = true;
        System.out.println("seed " + seed + ":");
        for (String line : history) {
            System.out.println("  " + line);
        }
        System.out.println("  " + what);
    }
}
