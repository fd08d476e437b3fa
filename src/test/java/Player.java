import java.lang.reflect.InvocationTargetException;
import java.lang.reflect.Method;
import java.util.HashMap;
import java.util.List;
import java.util.Map;

/**
 * Plays calls on one new object, at most the 512 that the document promises. Some short forms stand for several calls:
 * add("ab%3") feeds the bytes and calls addTest, word(0, "ab") clears a word and appends the letters, text(0) reads a word.
 */
final class Player {
    private static final int MOST_CALLS = 512;
    private static final Map<Class<?>, Map<String, Method>> METHODS =
        Map.of(SubwordCounter.class, methods(SubwordCounter.class), Reference.class, methods(Reference.class));

    private final Object object;
    private int calls = 0;

    private Player(Object object) {
        this.object = object;
    }

    static Player on(Class<?> kind) {
        return new Player(kind == Reference.class ? new Reference() : new SubwordCounter());
    }

    String answer(Call call) {
        List<String> arguments = call.arguments();
        switch (call.method()) {
            case "add":
                return add(unquoted(arguments.get(0)));
            case "word":
                return setWord(Integer.parseInt(arguments.get(0)), unquoted(arguments.get(1)));
            case "text":
                return text(Integer.parseInt(arguments.get(0)));
            default:
                int[] numbers = new int[arguments.size()];
                for (int i = 0; i < numbers.length; i++) {
                    numbers[i] = Integer.parseInt(arguments.get(i));
                }
                return answer(call.method(), numbers);
        }
    }

    String answer(String method, int... arguments) {
        calls++;
        if (calls > MOST_CALLS) {
            throw new IllegalStateException("nothing is promised after 512 calls");
        }
        Method called = METHODS.get(object.getClass()).get(method);
        if (called == null || called.getParameterCount() != arguments.length) {
            throw new IllegalArgumentException("no such call: " + method);
        }
        Object[] boxed = new Object[arguments.length];
        for (int i = 0; i < boxed.length; i++) {
            boxed[i] = arguments[i];
        }
        try {
            return String.valueOf(called.invoke(object, boxed));
        } catch (InvocationTargetException e) {
            return e.getCause().toString();
        } catch (IllegalAccessException e) {
            return e.toString();
        }
    }

    private String add(String test) {
        for (char c : test.toCharArray()) {
            answer("feed", c);
        }
        return answer("addTest");
    }

    private String setWord(int word, String letters) {
        String length = answer("clearWord", word);
        length = letters.isEmpty() ? "0" : length;
        for (char c : letters.toCharArray()) {
            length = answer("append", word, c - 'a');
        }
        return length;
    }

    private String text(int word) {
        StringBuilder read = new StringBuilder("\"");
        String length = answer("length", word);
        for (int i = 0; i < Integer.parseInt(length); i++) {
            read.append((char) ('a' + Integer.parseInt(answer("letter", word, i))));
        }
        return read.append('"').toString();
    }

    private static String unquoted(String text) {
        return text.substring(1, text.length() - 1);
    }

    /** The public methods of a class by their names, each of which stands for one. */
    static Map<String, Method> methods(Class<?> of) {
        Map<String, Method> found = new HashMap<>();
        for (Method method : of.getMethods()) {
            if (method.getDeclaringClass() == of) {
                found.put(method.getName(), method);
            }
        }
        return found;
    }
}
