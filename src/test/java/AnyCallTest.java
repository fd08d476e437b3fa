import java.lang.reflect.InvocationTargetException;
import java.lang.reflect.Method;
import java.util.Map;
import java.util.Random;
import java.util.TreeMap;

/**
 * Any calls with any numbers, with a fixed seed: none may throw, in whatever state, and also behind the 512 calls after which the answers
 * are free. A second object that gets the same calls must answer the same, as no answer may come from elsewhere.
 */
public final class AnyCallTest {
    private static final int OBJECTS = 40;
    private static final int CALLS = 4000;
    private static final int[] WILD = {Integer.MIN_VALUE, Integer.MAX_VALUE, -100, -2, -1, 4, 5, 6, 7, 8, 12, 13, 20, 21, 22, 100, 127, 128, 1 << 16};
    private static final String[] TESTS = {"a%2", "#%9", "ab^9", "abba%6", "aabb%6", "abab%9", "aaaa^1", "cab%3", "c^2", "abcb^8", "abbc^8", "ba%7", "a%"};
    private static final Map<String, Method> METHODS = new TreeMap<>(Player.methods(SubwordCounter.class));
    private static final String[] NAMES = METHODS.keySet().toArray(new String[0]);

    public static void main(String[] args) throws ReflectiveOperationException {
        for (int seed = 0; seed < OBJECTS; seed++) {
            play(new Random(seed));
        }
        System.out.println(OBJECTS + " pairs of objects have taken any calls");
    }

    private static void play(Random random) throws ReflectiveOperationException {
        SubwordCounter one = new SubwordCounter();
        SubwordCounter two = new SubwordCounter();
        for (int i = 0; i < CALLS; i++) {
            // Without these there would hardly ever be a test or a language.
            if (random.nextInt(12) == 0) {
                String test = TESTS[random.nextInt(TESTS.length)];
                for (char c : test.toCharArray()) {
                    compare("feed", one, two, (int) c);
                }
                compare("addTest", one, two);
                compare("setBasic", one, two, random.nextInt(4), random.nextInt(3), random.nextInt(2));
            }
            String name = NAMES[random.nextInt(NAMES.length)];
            Object[] numbers = new Object[METHODS.get(name).getParameterCount()];
            for (int j = 0; j < numbers.length; j++) {
                numbers[j] = number(random);
            }
            // Else the tests and languages would never live long.
            if (!name.equals("setLetters") || random.nextInt(4) == 0) {
                compare(name, one, two, numbers);
            }
        }
    }

    private static void compare(String name, SubwordCounter one, SubwordCounter two, Object... numbers) throws ReflectiveOperationException {
        String answer = answer(METHODS.get(name), one, numbers);
        if (!answer.equals(answer(METHODS.get(name), two, numbers))) {
            fault(name + " answered " + answer + " and something else");
        }
    }

    private static int number(Random random) {
        switch (random.nextInt(8)) {
            case 0:
                return random.nextInt();
            case 1:
                return WILD[random.nextInt(WILD.length)];
            default:
                return random.nextInt(random.nextBoolean() ? 3 : 4);
        }
    }

    private static String answer(Method called, SubwordCounter object, Object[] numbers) throws ReflectiveOperationException {
        try {
            return String.valueOf(called.invoke(object, numbers));
        } catch (InvocationTargetException e) {
            e.getCause().printStackTrace(System.out);
            fault(called.getName() + " threw");
            return "";
        }
    }

    private static void fault(String what) {
        System.out.println(what);
        System.exit(1);
    }
}
