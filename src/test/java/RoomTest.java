import com.sun.management.ThreadMXBean;
import java.lang.management.ManagementFactory;

/**
 * What an object and 512 of its dearest calls allocate. A run has room for 7.3 million fields and elements and 600,000 objects, none
 * of which is ever given back; as each object has at least 16 bytes and most elements have 4, the limit of 2 million bytes is
 * far below both.
 */
public final class RoomTest {
    private static final long MOST_BYTES = 2_000_000;
    private static final int KINDS = 22;

    public static void main(String[] args) {
        ThreadMXBean machine = (ThreadMXBean) ManagementFactory.getThreadMXBean();
        boolean wrong = false;
        // The first round lets the machine load what it needs itself.
        run(0);
        for (int kind = 0; kind < KINDS; kind++) {
            long before = machine.getCurrentThreadAllocatedBytes();
            run(kind);
            long used = machine.getCurrentThreadAllocatedBytes() - before;
            if (used > MOST_BYTES) {
                wrong = true;
                System.out.println("a run of kind " + kind + " allocates " + used + " bytes");
            }
        }
        System.out.println(wrong ? "the room is too small" : "the runs stay small");
        if (wrong) {
            System.exit(1);
        }
    }

    /** Up to 512 calls, all but the first ones of one kind. */
    private static void run(int kind) {
        SubwordCounter x = new SubwordCounter();
        x.setLetters(3);
        addTest(x, "abca%2");
        addTest(x, "a%5");
        addTest(x, "b%5");
        addTest(x, "c%5");
        addTest(x, "ab%7");
        x.setBasic(0, 0, 1);
        for (int i = 1; i < 4; i++) {
            x.setBasic(1, i, 4);
            x.intersect(0, 0, 1);
        }
        x.newRow(0, 1, 21);
        for (int calls = 0; calls < 440; calls++) {
            call(x, kind, calls);
        }
    }

    private static void addTest(SubwordCounter x, String text) {
        for (int i = 0; i < text.length(); i++) {
            x.feed(text.charAt(i));
        }
        x.addTest();
    }

    private static int call(SubwordCounter x, int kind, int i) {
        switch (kind) {
            case 0: return x.states(4);
            case 1: return x.minimalStates(4);
            case 2: return x.monoidSize(4);
            case 3: return x.isGroup(4);
            case 4: return x.languageStates(0);
            case 5: return (int) x.countWords(0, 20);
            case 6: return x.firstWord(0, 0);
            case 7: return x.firstDifference(0, 0, 0);
            case 8: return x.fillCounts(0, 0);
            case 9: return x.classes(7);
            case 10: return x.classSize(7, i);
            case 11: return x.findCollision();
            case 12: return x.separate(0, 1);
            case 13: return x.setBasic(i % 4, i % 5, 0);
            case 14: return x.complement(i % 4, 0);
            case 15: return x.setBasic(1, 0, 0) + x.setBasic(2, 1, 0) + x.unite(3, 1, 2) + x.intersect(3, 3, 3);
            case 16: return x.newRow(i % 3, i % 2, 21);
            case 17: return x.saveSnapshot() + x.restoreSnapshot();
            case 18: return x.setLetters(1 + i % 3);
            case 19: return x.feed('a') + x.feed('%') + x.feed('2') + x.addTest() + x.removeTest(0);
            case 20: return x.append(0, 0) + x.concatenate(1, 0) + x.reverse(1) + x.occurrences(0, 1) + x.clearWord(1);
            default: return x.signature(0) + x.value(0, 0) + x.contains(0, 0) + x.compare(0, 1);
        }
    }
}
