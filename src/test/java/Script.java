import java.util.ArrayList;
import java.util.List;

/** Runs calls on a new object and counts the answers that are not due. */
final class Script {
    private final Class<?> kind;
    private final String name;
    private final Player player;
    private final List<Call> past = new ArrayList<>();
    private int wrong = 0;

    private Script(Class<?> kind, String name) {
        this.kind = kind;
        this.name = name;
        this.player = Player.on(kind);
    }

    /** The number of wrong answers of the program in a run of calls on a new object. */
    static int run(String name, String... lines) {
        return run(SubwordCounter.class, name, lines);
    }

    /** The same for the program or for the reference. */
    static int run(Class<?> kind, String name, String... lines) {
        Script script = new Script(kind, name);
        for (Call call : Call.readAll(lines)) {
            script.check(call);
        }
        return script.wrong;
    }

    private void check(Call call) {
        if (call.due() == null) {
            throw new IllegalArgumentException("no answer is due: " + call.text());
        }
        for (int i = 0; i < call.times(); i++) {
            String got = player.answer(call);
            if (!got.equals(call.due())) {
                tell(call.text() + " answered " + got);
            }
        }
        if (!call.keepsState()) {
            past.add(call);
            return;
        }
        String difference = Twins.difference(kind, past, call);
        if (difference != null) {
            tell(call.text() + " changed the state, " + difference);
        }
    }

    private void tell(String fault) {
        wrong++;
        System.out.println(name + ": " + fault);
    }
}
