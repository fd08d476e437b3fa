import java.util.Arrays;

/**
 * Scattered subword counts modulo small numbers: tests of words, signatures and collisions, separating words, finite
 * automata of tests, their transition monoids, and Boolean combinations of languages.
 */
public final class SubwordCounter {
    public static final int BAD_ARGUMENT = -1;
    public static final int NONE = -2;
    public static final int FULL = -3;
    public static final int TOO_LARGE = -4;
    public static final int EMPTY_REGISTER = -5;
    public static final int TYPE_MISMATCH = -6;
    public static final int NULL_ROW = -11;
    public static final int INDEX_OUT_OF_RANGE = -13;
    public static final int NEGATIVE_SIZE = -14;
    public static final int SYNTAX_ERROR = -100;

    private static final int MOST_LETTERS = 3;
    private static final int WORDS = 3;
    private static final int WORD_ROOM = 12;
    private static final int INPUT_ROOM = 8;
    private static final int MOST_TESTS = 6;
    private static final int PATTERN_ROOM = 4;
    private static final int MOST_MODULUS = 99;
    private static final int LANGUAGES = 4;
    private static final int MOST_BASICS = 4;
    private static final int LONGEST_LISTED = 7;
    private static final int LONGEST_COUNTED = 20;
    private static final int ROWS = 3;
    private static final int ROW_ROOM = 21;

    private static final int COUNT_TEST = 0;
    private static final int LENGTH_TEST = 1;
    private static final int THRESHOLD_TEST = 2;
    private static final int MOST_RANGE = 10;

    private static final int BASIC_FORM = 0;
    private static final int COMPLEMENT_FORM = 1;
    private static final int INTERSECTION_FORM = 2;
    private static final int UNION_FORM = 3;

    private static final int NULL_TYPE = -1;
    private static final int SHORT_TYPE = 0;
    private static final int INT_TYPE = 1;
    private static final long NO_ELEMENT = -9223372036854775808L;

    private final Registers now = new Registers();
    private final Registers saved = new Registers();
    private boolean snapshotTaken = false;
    private final int[] input = new int[INPUT_ROOM];
    private int inputLength = 0;
    private final Row[] rows = new Row[ROWS];
    private final Word candidate = new Word();
    private final WordList listing = new WordList();
    private final Automaton automaton = new Automaton();
    private final Partition partition = new Partition();
    private Monoid monoid = null;
    private final long[] lengthCounts = new long[LONGEST_COUNTED + 1];

    public SubwordCounter() {
        for (int i = 0; i < ROWS; i++) {
            rows[i] = new Row();
        }
    }

    // ---- words

    public int setLetters(int k) {
        if (k < 1 || k > MOST_LETTERS) {
            return BAD_ARGUMENT;
        }
        int before = now.letters;
        now.restart(k);
        return before;
    }

    public int letters() {
        return now.letters;
    }

    public int append(int word, int letter) {
        if (!isWord(word) || letter < 0 || letter >= now.letters) {
            return BAD_ARGUMENT;
        }
        Word changed = now.words[word];
        if (changed.size >= WORD_ROOM) {
            return FULL;
        }
        changed.push(letter);
        return changed.size;
    }

    public int clearWord(int word) {
        if (!isWord(word)) {
            return BAD_ARGUMENT;
        }
        int before = now.words[word].size;
        now.words[word].size = 0;
        return before;
    }

    public int length(int word) {
        return isWord(word) ? now.words[word].size : BAD_ARGUMENT;
    }

    public int letter(int word, int i) {
        if (!isWord(word)) {
            return BAD_ARGUMENT;
        }
        Word read = now.words[word];
        return i >= 0 && i < read.size ? read.letters[i] : NONE;
    }

    public int reverse(int word) {
        if (!isWord(word)) {
            return BAD_ARGUMENT;
        }
        return now.words[word].turnRound() ? 1 : 0;
    }

    public int concatenate(int word, int other) {
        if (!isWord(word) || !isWord(other)) {
            return BAD_ARGUMENT;
        }
        Word changed = now.words[word];
        if (changed.size + now.words[other].size > WORD_ROOM) {
            return FULL;
        }
        changed.pushAll(now.words[other]);
        return changed.size;
    }

    public int compare(int word, int other) {
        if (!isWord(word) || !isWord(other)) {
            return BAD_ARGUMENT;
        }
        return now.words[word].orderAgainst(now.words[other]);
    }

    public int occurrences(int pattern, int word) {
        if (!isWord(pattern) || !isWord(word)) {
            return BAD_ARGUMENT;
        }
        return now.words[pattern].occurrencesIn(now.words[word]);
    }

    public int separate(int word, int other) {
        if (!isWord(word) || !isWord(other) || word == other) {
            return BAD_ARGUMENT;
        }
        int patterns = 1;
        for (int length = 1; length <= PATTERN_ROOM; length++) {
            patterns *= now.letters;
            for (int i = 0; i < patterns; i++) {
                candidate.setListed(length, i, now.letters);
                int modulus = separatingModulus(candidate, now.words[word], now.words[other]);
                if (modulus != NONE) {
                    thirdWord(word, other).copyFrom(candidate);
                    return modulus;
                }
            }
        }
        return NONE;
    }

    // ---- tests and signatures

    public int feed(int b) {
        if (b < 1 || b > 127) {
            return BAD_ARGUMENT;
        }
        if (inputLength >= INPUT_ROOM) {
            return FULL;
        }
        input[inputLength] = b;
        inputLength++;
        return inputLength;
    }

    public int addTest() {
        if (now.tests.count >= MOST_TESTS) {
            return FULL;
        }
        int error = Syntax.errorAt(input, inputLength, now.letters);
        int length = inputLength;
        inputLength = 0;
        if (error >= 0) {
            return SYNTAX_ERROR - error;
        }
        now.tests.add(Syntax.read(input, length));
        return now.tests.count - 1;
    }

    public int removeTest(int test) {
        if (!isTest(test)) {
            return BAD_ARGUMENT;
        }
        now.tests.remove(test);
        return now.tests.count;
    }

    public int testCount() {
        return now.tests.count;
    }

    public int test(int test, int what) {
        if (!isTest(test)) {
            return BAD_ARGUMENT;
        }
        Test read = now.tests.members[test];
        switch (what) {
            case 0:
                return read.kind;
            case 1:
                return read.range;
            case 2:
                return read.size;
            default:
                return BAD_ARGUMENT;
        }
    }

    public int value(int test, int word) {
        if (!isTest(test) || !isWord(word)) {
            return BAD_ARGUMENT;
        }
        return now.tests.members[test].valueFor(now.words[word]);
    }

    public int signature(int word) {
        if (!isWord(word)) {
            return BAD_ARGUMENT;
        }
        int sum = 0;
        for (int i = now.tests.count - 1; i >= 0; i--) {
            Test read = now.tests.members[i];
            sum = read.valueFor(now.words[word]) + read.range * sum;
        }
        return sum;
    }

    public int classes(int n) {
        if (n < 0 || n > LONGEST_LISTED) {
            return BAD_ARGUMENT;
        }
        listing.list(now.tests, now.letters, n);
        return listing.distinctSignatures();
    }

    public int classSize(int n, int signature) {
        if (n < 0 || n > LONGEST_LISTED) {
            return BAD_ARGUMENT;
        }
        listing.list(now.tests, now.letters, n);
        return listing.wordsWith(signature);
    }

    public int findCollision() {
        listing.start();
        for (int n = 1; n <= LONGEST_LISTED; n++) {
            listing.lengthen(now.tests, now.letters);
            listing.sign(now.tests);
            if (listing.findPair()) {
                now.words[0].setListed(n, listing.pairFirst, now.letters);
                now.words[1].setListed(n, listing.pairSecond, now.letters);
                return n;
            }
        }
        return NONE;
    }

    // ---- automata of tests

    public int states(int test) {
        if (!isTest(test)) {
            return BAD_ARGUMENT;
        }
        return exploreTest(test) ? automaton.states : TOO_LARGE;
    }

    public int minimalStates(int test) {
        if (!isTest(test)) {
            return BAD_ARGUMENT;
        }
        if (!exploreTest(test)) {
            return TOO_LARGE;
        }
        partition.refine(automaton);
        return partition.blocks;
    }

    public int monoidSize(int test) {
        if (!isTest(test)) {
            return BAD_ARGUMENT;
        }
        if (!exploreTest(test)) {
            return TOO_LARGE;
        }
        partition.refine(automaton);
        // The monoid's rows are by far the largest ones, and most objects never need them.
        if (monoid == null) {
            monoid = new Monoid();
        }
        return monoid.generate(partition, automaton) ? monoid.count : TOO_LARGE;
    }

    public int isGroup(int test) {
        if (!isTest(test)) {
            return BAD_ARGUMENT;
        }
        if (!exploreTest(test)) {
            return TOO_LARGE;
        }
        partition.refine(automaton);
        return partition.isPermuted(automaton) ? 1 : 0;
    }

    // ---- languages

    public int setBasic(int language, int test, int value) {
        if (!isLanguage(language) || !isTest(test)) {
            return BAD_ARGUMENT;
        }
        Test read = now.tests.members[test];
        if (value < 0 || value >= read.range) {
            return BAD_ARGUMENT;
        }
        now.languages[language] = Language.basic(read, value);
        return 1;
    }

    public int complement(int target, int language) {
        if (!isLanguage(target) || !isLanguage(language)) {
            return BAD_ARGUMENT;
        }
        Language source = now.languages[language];
        if (source == null) {
            return EMPTY_REGISTER;
        }
        now.languages[target] = Language.complementOf(source);
        return source.basics;
    }

    public int intersect(int target, int language, int other) {
        return combine(INTERSECTION_FORM, target, language, other);
    }

    public int unite(int target, int language, int other) {
        return combine(UNION_FORM, target, language, other);
    }

    public int clearLanguage(int language) {
        if (!isLanguage(language)) {
            return BAD_ARGUMENT;
        }
        int held = now.languages[language] == null ? 0 : 1;
        now.languages[language] = null;
        return held;
    }

    public int form(int language) {
        if (!isLanguage(language)) {
            return BAD_ARGUMENT;
        }
        Language read = now.languages[language];
        return read == null ? EMPTY_REGISTER : read.form;
    }

    public int contains(int language, int word) {
        if (!isLanguage(language) || !isWord(word)) {
            return BAD_ARGUMENT;
        }
        Language read = now.languages[language];
        if (read == null) {
            return EMPTY_REGISTER;
        }
        return read.holds(now.words[word]) ? 1 : 0;
    }

    public int languageStates(int language) {
        if (!isLanguage(language)) {
            return BAD_ARGUMENT;
        }
        Language read = now.languages[language];
        if (read == null) {
            return EMPTY_REGISTER;
        }
        if (!exploreLanguage(read)) {
            return TOO_LARGE;
        }
        partition.refine(automaton);
        return partition.blocks;
    }

    public long countWords(int language, int n) {
        if (!isLanguage(language) || n < 0 || n > LONGEST_COUNTED) {
            return BAD_ARGUMENT;
        }
        Language read = now.languages[language];
        if (read == null) {
            return EMPTY_REGISTER;
        }
        if (!exploreLanguage(read)) {
            return TOO_LARGE;
        }
        automaton.countByLength(lengthCounts, n);
        return lengthCounts[n];
    }

    public int firstWord(int language, int word) {
        if (!isLanguage(language) || !isWord(word)) {
            return BAD_ARGUMENT;
        }
        Language read = now.languages[language];
        if (read == null) {
            return EMPTY_REGISTER;
        }
        if (!exploreLanguage(read)) {
            return TOO_LARGE;
        }
        return takeFirst(now.words[word]);
    }

    public int firstDifference(int language, int other, int word) {
        if (!isLanguage(language) || !isLanguage(other) || !isWord(word)) {
            return BAD_ARGUMENT;
        }
        Language one = now.languages[language];
        Language two = now.languages[other];
        if (one == null || two == null) {
            return EMPTY_REGISTER;
        }
        if (!exploreDifference(one, two)) {
            return TOO_LARGE;
        }
        return takeFirst(now.words[word]);
    }

    // ---- rows, snapshot

    public int newRow(int row, int type, int size) {
        if (!isRow(row) || type < NULL_TYPE || type > INT_TYPE) {
            return BAD_ARGUMENT;
        }
        if (type == NULL_TYPE) {
            rows[row].restart(NULL_TYPE, 0);
            return 1;
        }
        if (size > ROW_ROOM) {
            return BAD_ARGUMENT;
        }
        if (size < 0) {
            return NEGATIVE_SIZE;
        }
        rows[row].restart(type, size);
        return 1;
    }

    public int setElement(int row, int i, int value) {
        if (!isRow(row)) {
            return BAD_ARGUMENT;
        }
        Row changed = rows[row];
        if (changed.type == NULL_TYPE) {
            return NULL_ROW;
        }
        if (i < 0 || i >= changed.size) {
            return INDEX_OUT_OF_RANGE;
        }
        changed.put(i, value);
        return 1;
    }

    public long element(int row, int i) {
        // A null row has no elements, so the size tells both.
        if (!isRow(row) || i < 0 || i >= rows[row].size) {
            return NO_ELEMENT;
        }
        return rows[row].elements[i];
    }

    public int copyElements(int source, int from, int target, int to, int n) {
        if (!isRow(source) || !isRow(target)) {
            return BAD_ARGUMENT;
        }
        Row read = rows[source];
        Row changed = rows[target];
        if (read.type == NULL_TYPE || changed.type == NULL_TYPE) {
            return NULL_ROW;
        }
        if (read.type != changed.type) {
            return TYPE_MISMATCH;
        }
        if (!read.hasRange(from, n) || !changed.hasRange(to, n)) {
            return INDEX_OUT_OF_RANGE;
        }
        System.arraycopy(read.elements, from, changed.elements, to, n);
        return n;
    }

    public int fillCounts(int row, int language) {
        if (!isRow(row) || !isLanguage(language)) {
            return BAD_ARGUMENT;
        }
        Language read = now.languages[language];
        if (read == null) {
            return EMPTY_REGISTER;
        }
        Row changed = rows[row];
        if (changed.type == NULL_TYPE) {
            return NULL_ROW;
        }
        if (!exploreLanguage(read)) {
            return TOO_LARGE;
        }
        automaton.countByLength(lengthCounts, changed.size - 1);
        for (int i = 0; i < changed.size; i++) {
            changed.put(i, (int) lengthCounts[i]);
        }
        return changed.size;
    }

    public int saveSnapshot() {
        saved.copyFrom(now);
        snapshotTaken = true;
        return now.languagesHeld();
    }

    public int restoreSnapshot() {
        if (!snapshotTaken) {
            return NONE;
        }
        now.copyFrom(saved);
        return now.languagesHeld();
    }

    // ---- what the calls share

    private static boolean isWord(int word) {
        return word >= 0 && word < WORDS;
    }

    private static boolean isLanguage(int language) {
        return language >= 0 && language < LANGUAGES;
    }

    private static boolean isRow(int row) {
        return row >= 0 && row < ROWS;
    }

    private boolean isTest(int test) {
        return test >= 0 && test < now.tests.count;
    }

    private Word thirdWord(int word, int other) {
        for (int i = 0; i < WORDS; i++) {
            if (i != word && i != other) {
                return now.words[i];
            }
        }
        return candidate;
    }

    private static int separatingModulus(Word pattern, Word one, Word two) {
        int inOne = pattern.occurrencesIn(one);
        int inTwo = pattern.occurrencesIn(two);
        if (inOne == inTwo) {
            return NONE;
        }
        for (int m = 2; m <= MOST_MODULUS; m++) {
            if (inOne % m != inTwo % m) {
                return m;
            }
        }
        return NONE;
    }

    private int combine(int form, int target, int language, int other) {
        if (!isLanguage(target) || !isLanguage(language) || !isLanguage(other)) {
            return BAD_ARGUMENT;
        }
        Language one = now.languages[language];
        Language two = now.languages[other];
        if (one == null || two == null) {
            return EMPTY_REGISTER;
        }
        if (one.basics + two.basics > MOST_BASICS) {
            return FULL;
        }
        now.languages[target] = Language.joined(form, one, two);
        return one.basics + two.basics;
    }

    private boolean exploreTest(int test) {
        automaton.restart(now.letters);
        automaton.tests.add(now.tests.members[test]);
        if (!automaton.explore()) {
            return false;
        }
        automaton.markValues();
        return true;
    }

    private boolean exploreLanguage(Language read) {
        automaton.restart(now.letters);
        read.addTestsTo(automaton.tests);
        if (!automaton.explore()) {
            return false;
        }
        automaton.markMembers(read);
        return true;
    }

    private boolean exploreDifference(Language one, Language two) {
        automaton.restart(now.letters);
        one.addTestsTo(automaton.tests);
        two.addTestsTo(automaton.tests);
        if (!automaton.explore()) {
            return false;
        }
        automaton.markDifference(one, two);
        return true;
    }

    /** The length of the first word that leads to a marked state; it is put into the target if it fits there. */
    private int takeFirst(Word target) {
        int state = automaton.firstMarked();
        if (state < 0) {
            return NONE;
        }
        int length = automaton.depth[state];
        if (length <= WORD_ROOM) {
            automaton.spell(state, target);
        }
        return length;
    }

    /** A word of at most twelve letters. */
    private static final class Word {
        final int[] letters = new int[WORD_ROOM];
        int size = 0;
        // A row of this object's own, so that counting occurrences makes no new one each time.
        private final int[] ways = new int[WORD_ROOM + 1];

        void push(int letter) {
            if (size < WORD_ROOM) {
                letters[size] = letter;
                size++;
            }
        }

        void pushAll(Word other) {
            // The other word may be this one, whose size grows meanwhile.
            int added = other.size;
            for (int i = 0; i < added; i++) {
                push(other.letters[i]);
            }
        }

        void copyFrom(Word other) {
            System.arraycopy(other.letters, 0, letters, 0, WORD_ROOM);
            size = other.size;
        }

        /** Makes it the word of a length that stands at an index, from 0, in lexicographic order. */
        void setListed(int length, int index, int alphabet) {
            size = Math.min(length, WORD_ROOM);
            int rest = index;
            int base = Math.max(alphabet, 1);
            for (int i = size - 1; i >= 0; i--) {
                letters[i] = rest % base;
                rest = rest / base;
            }
        }

        /** Whether the word is the same after it has been reversed. */
        boolean turnRound() {
            boolean same = true;
            for (int i = 0; i < size / 2; i++) {
                int left = letters[i];
                int right = letters[size - 1 - i];
                same = same && left == right;
                letters[i] = right;
                letters[size - 1 - i] = left;
            }
            return same;
        }

        /** 0 if this word is smaller in the shortlex order, 1 if both are equal, 2 if it is greater. */
        int orderAgainst(Word other) {
            if (size != other.size) {
                return size < other.size ? 0 : 2;
            }
            for (int i = 0; i < size; i++) {
                if (letters[i] != other.letters[i]) {
                    return letters[i] < other.letters[i] ? 0 : 2;
                }
            }
            return 1;
        }

        int occurrencesIn(Word text) {
            Arrays.fill(ways, 0);
            ways[0] = 1;
            for (int i = 0; i < text.size; i++) {
                // From the longest prefix down, so that one letter of the text serves each prefix once.
                for (int j = size; j >= 1; j--) {
                    if (letters[j - 1] == text.letters[i]) {
                        ways[j] += ways[j - 1];
                    }
                }
            }
            return ways[size];
        }
    }

    /** The grammar of tests: a pattern or #, a sign, a digit. */
    private static final class Syntax {
        private Syntax() {
        }

        /** The offset of the first byte that cannot continue a test, or -1 if the input is a test. */
        static int errorAt(int[] input, int length, int alphabet) {
            int sign = headLength(input, length, alphabet);
            if (sign == 0 || sign >= length || !isSign(input[0], input[sign])) {
                return sign;
            }
            int digit = sign + 1;
            if (digit >= length || !isLimit(input[sign], input[digit])) {
                return digit;
            }
            return digit + 1 < length ? digit + 1 : -1;
        }

        /** The test that an input without an error tells; such an input has 3 to 6 bytes. */
        static Test read(int[] input, int length) {
            int limit = input[length - 1] - '0';
            if (input[0] == '#') {
                return new Test(LENGTH_TEST, limit, new int[0]);
            }
            int[] pattern = new int[length - 2];
            for (int i = 0; i < pattern.length; i++) {
                pattern[i] = input[i] - 'a';
            }
            return new Test(input[length - 2] == '%' ? COUNT_TEST : THRESHOLD_TEST, limit, pattern);
        }

        private static int headLength(int[] input, int length, int alphabet) {
            if (length > 0 && input[0] == '#') {
                return 1;
            }
            int found = 0;
            for (int i = 0; i < length && i < PATTERN_ROOM; i++) {
                if (input[i] < 'a' || input[i] >= 'a' + alphabet) {
                    return found;
                }
                found++;
            }
            return found;
        }

        private static boolean isSign(int head, int sign) {
            return sign == '%' || (sign == '^' && head != '#');
        }

        private static boolean isLimit(int sign, int digit) {
            return digit >= (sign == '%' ? '2' : '1') && digit <= '9';
        }
    }

    /**
     * A test, which never changes. Its state is one int of 16 bits: four bits for each prefix of the pattern, the shortest
     * one lowest, or the length in the lowest four.
     */
    private static final class Test {
        final int kind;
        final int limit;
        final int range;
        final int size;
        final int[] pattern;

        Test(int kind, int limit, int[] pattern) {
            this.kind = kind;
            this.limit = limit;
            this.range = kind == THRESHOLD_TEST ? limit + 1 : limit;
            this.size = pattern.length;
            this.pattern = pattern;
        }

        int step(int state, int letter) {
            if (kind == LENGTH_TEST) {
                return bounded(state + 1);
            }
            int after = state;
            int shorter = 1;
            for (int i = 0; i < size; i++) {
                int count = (state >>> (4 * i)) & 15;
                if (pattern[i] == letter) {
                    after = (after & ~(15 << (4 * i))) | (bounded(count + shorter) << (4 * i));
                }
                shorter = count;
            }
            return after;
        }

        /** Both parts of a sum are below the modulus, or at most the cap, already. */
        private int bounded(int sum) {
            if (kind == THRESHOLD_TEST) {
                return Math.min(sum, limit);
            }
            return sum >= limit ? sum - limit : sum;
        }

        int valueAt(int state) {
            return kind == LENGTH_TEST ? state : (state >>> (4 * (size - 1))) & 15;
        }

        int valueFor(Word word) {
            int state = 0;
            for (int i = 0; i < word.size; i++) {
                state = step(state, word.letters[i]);
            }
            return valueAt(state);
        }
    }

    /** Up to eight tests that read the same word. Their states are packed into two longs, four tests in each. */
    private static final class Bundle {
        static final int ROOM = 2 * MOST_BASICS;
        final Test[] members = new Test[ROOM];
        int count = 0;

        void add(Test test) {
            if (count < ROOM) {
                members[count] = test;
                count++;
            }
        }

        void remove(int index) {
            for (int i = index; i + 1 < count; i++) {
                members[i] = members[i + 1];
            }
            count--;
        }

        void copyFrom(Bundle other) {
            System.arraycopy(other.members, 0, members, 0, ROOM);
            count = other.count;
        }

        /** The packed states of tests 0 to 3 (half 0) or 4 to 7 (half 1) after a letter more. */
        long step(int half, long packed, int letter) {
            int from = 4 * half;
            long after = 0;
            for (int i = from; i < from + 4 && i < count; i++) {
                int shift = 16 * (i - from);
                int state = (int) (packed >>> shift) & 0xFFFF;
                after |= (long) members[i].step(state, letter) << shift;
            }
            return after;
        }

        int valueAt(int index, long low, long high) {
            long packed = index < 4 ? low : high;
            return members[index].valueAt((int) (packed >>> (16 * (index & 3))) & 0xFFFF);
        }

        int signatureAt(long low, long high) {
            int sum = 0;
            for (int i = count - 1; i >= 0; i--) {
                sum = valueAt(i, low, high) + members[i].range * sum;
            }
            return sum;
        }
    }

    /** All words of one length in lexicographic order, each with the states of the tests and its signature. */
    private static final class WordList {
        // 3 to the power of 7.
        static final int ROOM = 2187;
        static final int SLOTS = 4096;
        final long[] low = new long[ROOM];
        final long[] high = new long[ROOM];
        final int[] signatures = new int[ROOM];
        final int[] slots = new int[SLOTS];
        int count = 0;
        int pairFirst = 0;
        int pairSecond = 0;

        void list(Bundle tests, int alphabet, int length) {
            start();
            for (int n = 0; n < length; n++) {
                lengthen(tests, alphabet);
            }
            sign(tests);
        }

        /** Lists the empty word alone. */
        void start() {
            low[0] = 0;
            high[0] = 0;
            count = 1;
        }

        /** Goes on to the words with one letter more. */
        void lengthen(Bundle tests, int alphabet) {
            if (count * alphabet > ROOM) {
                return;
            }
            // From the last word down, so that no word is overwritten before its followers are made.
            for (int w = count - 1; w >= 0; w--) {
                long lowBefore = low[w];
                long highBefore = high[w];
                for (int c = 0; c < alphabet; c++) {
                    low[w * alphabet + c] = tests.step(0, lowBefore, c);
                    high[w * alphabet + c] = tests.step(1, highBefore, c);
                }
            }
            count *= alphabet;
        }

        void sign(Bundle tests) {
            for (int w = 0; w < count; w++) {
                signatures[w] = tests.signatureAt(low[w], high[w]);
            }
        }

        int wordsWith(int signature) {
            int found = 0;
            for (int w = 0; w < count; w++) {
                if (signatures[w] == signature) {
                    found++;
                }
            }
            return found;
        }

        int distinctSignatures() {
            Arrays.fill(slots, -1);
            int found = 0;
            for (int w = 0; w < count; w++) {
                if (firstWithSignatureOf(w) == w) {
                    found++;
                }
            }
            return found;
        }

        /** Whether two words have one signature: the first such pair is pairFirst and pairSecond then. */
        boolean findPair() {
            Arrays.fill(slots, -1);
            pairFirst = count;
            for (int w = 0; w < count; w++) {
                int first = firstWithSignatureOf(w);
                // Only a smaller first word is taken, so the second word stays the earliest partner of the first.
                if (first < w && first < pairFirst) {
                    pairFirst = first;
                    pairSecond = w;
                }
            }
            return pairFirst < count;
        }

        private int firstWithSignatureOf(int w) {
            int start = (signatures[w] * 0x9E3779B1) >>> 20;
            for (int i = 0; i < SLOTS; i++) {
                int slot = (start + i) & (SLOTS - 1);
                if (slots[slot] < 0) {
                    slots[slot] = w;
                    return w;
                }
                if (signatures[slots[slot]] == signatures[w]) {
                    return slots[slot];
                }
            }
            return w;
        }
    }

    /**
     * A language, which never changes. Whether it contains a word depends on which of its basic languages do: bit b of the
     * table tells it for the case in which bit i of b is set just if basic language i contains the word. So a language
     * that was made by any number of steps needs no tree of them.
     */
    private static final class Language {
        final int form;
        final int basics;
        final int table;
        private final Test[] tests;
        private final int[] values;

        private Language(int form, Test[] tests, int[] values, int table) {
            this.form = form;
            this.basics = tests.length;
            this.table = table;
            this.tests = tests;
            this.values = values;
        }

        static Language basic(Test test, int value) {
            Test[] tests = new Test[1];
            tests[0] = test;
            int[] values = new int[1];
            values[0] = value;
            return new Language(BASIC_FORM, tests, values, 2);
        }

        static Language complementOf(Language source) {
            int all = (1 << source.cases()) - 1;
            return new Language(COMPLEMENT_FORM, source.tests, source.values, source.table ^ all);
        }

        static Language joined(int form, Language one, Language two) {
            Test[] tests = new Test[one.basics + two.basics];
            System.arraycopy(one.tests, 0, tests, 0, one.basics);
            System.arraycopy(two.tests, 0, tests, one.basics, two.basics);
            int[] values = new int[one.basics + two.basics];
            System.arraycopy(one.values, 0, values, 0, one.basics);
            System.arraycopy(two.values, 0, values, one.basics, two.basics);
            return new Language(form, tests, values, joinedTable(form, one, two));
        }

        private static int joinedTable(int form, Language one, Language two) {
            int table = 0;
            for (int i = 0; i < one.cases(); i++) {
                for (int j = 0; j < two.cases(); j++) {
                    boolean inBoth = one.accepts(i) && two.accepts(j);
                    boolean inEither = one.accepts(i) || two.accepts(j);
                    if (form == INTERSECTION_FORM ? inBoth : inEither) {
                        table |= 1 << (i | (j << one.basics));
                    }
                }
            }
            return table;
        }

        private int cases() {
            return 1 << basics;
        }

        private boolean accepts(int truths) {
            return ((table >>> truths) & 1) == 1;
        }

        void addTestsTo(Bundle bundle) {
            for (int i = 0; i < basics; i++) {
                bundle.add(tests[i]);
            }
        }

        boolean holds(Word word) {
            int truths = 0;
            for (int i = 0; i < basics; i++) {
                if (tests[i].valueFor(word) == values[i]) {
                    truths |= 1 << i;
                }
            }
            return accepts(truths);
        }

        /** Whether words that lead to a state are in the language, whose tests begin at an offset in the bundle. */
        boolean holdsAt(Bundle bundle, int offset, long low, long high) {
            int truths = 0;
            for (int i = 0; i < basics; i++) {
                if (bundle.valueAt(offset + i, low, high) == values[i]) {
                    truths |= 1 << i;
                }
            }
            return accepts(truths);
        }
    }

    /**
     * The states that words reach in a bundle of tests, in the shortlex order of the first words that reach them, and a
     * mark at each state: the value of a test, or 1 in a language and 0 outside it.
     */
    private static final class Automaton {
        static final int MOST = 2000;
        static final int SLOTS = 4096;
        final Bundle tests = new Bundle();
        int letters = 1;
        int states = 0;
        final int[] next = new int[MOST * MOST_LETTERS];
        final int[] marks = new int[MOST];
        final int[] depth = new int[MOST];
        private final long[] low = new long[MOST];
        private final long[] high = new long[MOST];
        private final int[] parent = new int[MOST];
        private final int[] lastLetter = new int[MOST];
        private final int[] slots = new int[SLOTS];
        private final long[] paths = new long[MOST];
        private final long[] longerPaths = new long[MOST];

        void restart(int alphabet) {
            letters = alphabet;
            tests.count = 0;
            states = 0;
        }

        /** Whether the automaton is small enough; then all its states and transitions stand. */
        boolean explore() {
            Arrays.fill(slots, -1);
            depth[0] = 0;
            reach(0, 0);
            for (int s = 0; s < MOST && s < states; s++) {
                for (int c = 0; c < letters; c++) {
                    int known = states;
                    int to = reach(tests.step(0, low[s], c), tests.step(1, high[s], c));
                    if (to < 0) {
                        return false;
                    }
                    next[s * MOST_LETTERS + c] = to;
                    if (to == known) {
                        parent[to] = s;
                        lastLetter[to] = c;
                        depth[to] = depth[s] + 1;
                    }
                }
            }
            return true;
        }

        /** The number of a state, which becomes the next one if it is new; -1 if there is no room for it. */
        private int reach(long lowKey, long highKey) {
            long mixed = lowKey * 0x9E3779B97F4A7C15L + highKey * 0xC2B2AE3D27D4EB4FL;
            mixed = (mixed ^ (mixed >>> 29)) * 0xBF58476D1CE4E5B9L;
            int start = (int) (mixed >>> 52);
            for (int i = 0; i < SLOTS; i++) {
                int slot = (start + i) & (SLOTS - 1);
                int found = slots[slot];
                if (found < 0) {
                    return settle(slot, lowKey, highKey);
                }
                if (low[found] == lowKey && high[found] == highKey) {
                    return found;
                }
            }
            return -1;
        }

        private int settle(int slot, long lowKey, long highKey) {
            if (states >= MOST) {
                return -1;
            }
            slots[slot] = states;
            low[states] = lowKey;
            high[states] = highKey;
            states++;
            return states - 1;
        }

        void markValues() {
            for (int s = 0; s < states; s++) {
                marks[s] = tests.valueAt(0, low[s], high[s]);
            }
        }

        void markMembers(Language language) {
            for (int s = 0; s < states; s++) {
                marks[s] = language.holdsAt(tests, 0, low[s], high[s]) ? 1 : 0;
            }
        }

        void markDifference(Language one, Language two) {
            for (int s = 0; s < states; s++) {
                boolean inOne = one.holdsAt(tests, 0, low[s], high[s]);
                boolean inTwo = two.holdsAt(tests, one.basics, low[s], high[s]);
                marks[s] = inOne != inTwo ? 1 : 0;
            }
        }

        int firstMarked() {
            for (int s = 0; s < states; s++) {
                if (marks[s] == 1) {
                    return s;
                }
            }
            return -1;
        }

        /** Puts the first word that leads to a state into a word that has room for it. */
        void spell(int state, Word target) {
            int s = state;
            target.size = Math.min(depth[state], WORD_ROOM);
            for (int i = target.size - 1; i >= 0; i--) {
                target.letters[i] = lastLetter[s];
                s = parent[s];
            }
        }

        /** Sets counts[i] to the number of words of length i that lead to states marked 1, for i from 0 to longest. */
        void countByLength(long[] counts, int longest) {
            clearPaths(paths);
            paths[0] = 1;
            for (int n = 0; n <= longest && n < counts.length; n++) {
                counts[n] = markedPaths();
                lengthenPaths();
            }
        }

        private long markedPaths() {
            long sum = 0;
            for (int s = 0; s < states; s++) {
                if (marks[s] == 1) {
                    sum += paths[s];
                }
            }
            return sum;
        }

        private void lengthenPaths() {
            clearPaths(longerPaths);
            for (int s = 0; s < states; s++) {
                for (int c = 0; c < letters; c++) {
                    longerPaths[next[s * MOST_LETTERS + c]] += paths[s];
                }
            }
            System.arraycopy(longerPaths, 0, paths, 0, states);
        }

        private void clearPaths(long[] cleared) {
            for (int s = 0; s < states; s++) {
                cleared[s] = 0;
            }
        }
    }

    /**
     * The states of an automaton in blocks, which become those of the minimal automaton. The states of a block stand side
     * by side in members, the marked ones in front.
     */
    private static final class Partition {
        int blocks = 0;
        private final int[] members = new int[Automaton.MOST];
        private final int[] place = new int[Automaton.MOST];
        private final int[] blockOf = new int[Automaton.MOST];
        private final int[] first = new int[Automaton.MOST];
        private final int[] size = new int[Automaton.MOST];
        private final int[] marked = new int[Automaton.MOST];
        private final int[] touched = new int[Automaton.MOST];
        private int touchedCount = 0;
        private final int[] splitter = new int[Automaton.MOST];
        private final int[] hit = new int[Automaton.MOST];
        // The states that lead to state t by letter c stand in sources from sourceStart[c * (MOST + 1) + t] on.
        private final int[] sourceStart = new int[MOST_LETTERS * (Automaton.MOST + 1)];
        private final int[] sources = new int[MOST_LETTERS * Automaton.MOST];

        /**
         * Splits the blocks until all states of a block are led into one block by each letter. A block that is split gives
         * a new number to its smaller part. Each number is used once as a splitter, in order: what was split off a block
         * that had been used already, and its rest, need not both be used.
         */
        void refine(Automaton automaton) {
            groupByMark(automaton);
            gatherSources(automaton);
            for (int b = 0; b < Automaton.MOST && b < blocks; b++) {
                // The block itself may be split while its letters are gone through.
                int count = size[b];
                System.arraycopy(members, first[b], splitter, 0, count);
                for (int c = 0; c < automaton.letters; c++) {
                    for (int i = 0; i < count; i++) {
                        markSources(c, splitter[i]);
                    }
                    splitTouched();
                }
            }
        }

        private void groupByMark(Automaton automaton) {
            blocks = 0;
            int placed = 0;
            for (int mark = 0; mark < MOST_RANGE; mark++) {
                int from = placed;
                for (int s = 0; s < automaton.states; s++) {
                    if (automaton.marks[s] == mark) {
                        members[placed] = s;
                        place[s] = placed;
                        blockOf[s] = blocks;
                        placed++;
                    }
                }
                if (placed > from) {
                    openBlock(from, placed - from);
                }
            }
        }

        private void openBlock(int from, int count) {
            first[blocks] = from;
            size[blocks] = count;
            marked[blocks] = 0;
            blocks++;
        }

        private void gatherSources(Automaton automaton) {
            int filled = 0;
            for (int c = 0; c < automaton.letters; c++) {
                int base = c * (Automaton.MOST + 1);
                for (int t = 0; t < automaton.states; t++) {
                    sourceStart[base + t] = 0;
                }
                for (int s = 0; s < automaton.states; s++) {
                    sourceStart[base + automaton.next[s * MOST_LETTERS + c]]++;
                }
                // Each start is the end of its part at first; filling a part from its end moves it to the beginning.
                for (int t = 0; t < automaton.states; t++) {
                    filled += sourceStart[base + t];
                    sourceStart[base + t] = filled;
                }
                sourceStart[base + automaton.states] = filled;
                for (int s = 0; s < automaton.states; s++) {
                    int t = automaton.next[s * MOST_LETTERS + c];
                    sourceStart[base + t]--;
                    sources[sourceStart[base + t]] = s;
                }
            }
        }

        private void markSources(int letter, int target) {
            int at = letter * (Automaton.MOST + 1) + target;
            for (int i = sourceStart[at]; i < sourceStart[at + 1]; i++) {
                mark(sources[i]);
            }
        }

        private void mark(int state) {
            int block = blockOf[state];
            int to = first[block] + marked[block];
            int from = place[state];
            if (from < to) {
                return;
            }
            int other = members[to];
            members[to] = state;
            place[state] = to;
            members[from] = other;
            place[other] = from;
            if (marked[block] == 0) {
                touched[touchedCount] = block;
                touchedCount++;
            }
            marked[block]++;
        }

        private void splitTouched() {
            for (int i = 0; i < touchedCount; i++) {
                split(touched[i]);
            }
            touchedCount = 0;
        }

        private void split(int block) {
            int front = marked[block];
            int back = size[block] - front;
            marked[block] = 0;
            if (back == 0) {
                return;
            }
            int part = blocks;
            if (front <= back) {
                openBlock(first[block], front);
                first[block] += front;
                size[block] = back;
            } else {
                openBlock(first[block] + front, back);
                size[block] = front;
            }
            for (int i = first[part]; i < first[part] + size[part]; i++) {
                blockOf[members[i]] = part;
            }
        }

        int nextBlock(Automaton automaton, int block, int letter) {
            return blockOf[automaton.next[members[first[block]] * MOST_LETTERS + letter]];
        }

        /** Whether every letter permutes the blocks. */
        boolean isPermuted(Automaton automaton) {
            for (int c = 0; c < automaton.letters; c++) {
                for (int b = 0; b < blocks; b++) {
                    hit[b] = 0;
                }
                for (int b = 0; b < blocks; b++) {
                    int to = nextBlock(automaton, b, c);
                    if (hit[to] == 1) {
                        return false;
                    }
                    hit[to] = 1;
                }
            }
            return true;
        }
    }

    /** The mappings of the blocks of a partition that reading words makes. */
    private static final class Monoid {
        static final int MOST = 400;
        static final int SLOTS = 1024;
        int count = 0;
        private int points = 0;
        private final int[] generators = new int[MOST_LETTERS * MOST];
        // Mapping e leads from block q to images[e * points + q]; there is room for one that may prove known or too many.
        private final int[] images = new int[(MOST + 1) * MOST];
        private final int[] slots = new int[SLOTS];

        /** Whether the monoid is small enough; then its mappings stand. */
        boolean generate(Partition partition, Automaton automaton) {
            // Words lead from the start to every block, so there are at least as many mappings as blocks.
            if (partition.blocks > MOST) {
                return false;
            }
            takeGenerators(partition, automaton);
            startWithIdentity();
            for (int e = 0; e < MOST && e < count; e++) {
                for (int c = 0; c < automaton.letters; c++) {
                    follow(e, c);
                    if (!settleLast()) {
                        return false;
                    }
                }
            }
            return true;
        }

        private void takeGenerators(Partition partition, Automaton automaton) {
            points = partition.blocks;
            for (int c = 0; c < automaton.letters; c++) {
                for (int q = 0; q < points; q++) {
                    generators[c * MOST + q] = partition.nextBlock(automaton, q, c);
                }
            }
        }

        private void startWithIdentity() {
            Arrays.fill(slots, -1);
            count = 0;
            for (int q = 0; q < points; q++) {
                images[q] = q;
            }
            settleLast();
        }

        /** Writes mapping e followed by a letter behind the known mappings. */
        private void follow(int e, int letter) {
            for (int q = 0; q < points; q++) {
                images[count * points + q] = generators[letter * MOST + images[e * points + q]];
            }
        }

        /** Counts the mapping behind the known ones if it is new; false if there are too many. */
        private boolean settleLast() {
            int start = hashOf(count);
            for (int i = 0; i < SLOTS; i++) {
                int slot = (start + i) & (SLOTS - 1);
                if (slots[slot] < 0) {
                    if (count >= MOST) {
                        return false;
                    }
                    slots[slot] = count;
                    count++;
                    return true;
                }
                if (areSame(slots[slot], count)) {
                    return true;
                }
            }
            return false;
        }

        private int hashOf(int e) {
            int sum = 0;
            for (int q = 0; q < points; q++) {
                sum = sum * 31 + images[e * points + q];
            }
            return (sum * 0x9E3779B1) >>> 22;
        }

        private boolean areSame(int e, int f) {
            for (int q = 0; q < points; q++) {
                if (images[e * points + q] != images[f * points + q]) {
                    return false;
                }
            }
            return true;
        }
    }

    /** A row of at most 21 elements; a null row has none. */
    private static final class Row {
        int type = NULL_TYPE;
        int size = 0;
        final int[] elements = new int[ROW_ROOM];

        void restart(int newType, int newSize) {
            type = newType;
            size = newSize;
            Arrays.fill(elements, 0);
        }

        void put(int i, int value) {
            elements[i] = type == SHORT_TYPE ? (short) value : value;
        }

        boolean hasRange(int from, int n) {
            return n >= 0 && n <= size && from >= 0 && from <= size - n;
        }
    }

    /** What a snapshot saves. */
    private static final class Registers {
        int letters = 2;
        final Word[] words = new Word[WORDS];
        final Bundle tests = new Bundle();
        final Language[] languages = new Language[LANGUAGES];

        Registers() {
            for (int i = 0; i < WORDS; i++) {
                words[i] = new Word();
            }
        }

        void restart(int alphabet) {
            letters = alphabet;
            tests.count = 0;
            for (int i = 0; i < WORDS; i++) {
                words[i].size = 0;
            }
            for (int i = 0; i < LANGUAGES; i++) {
                languages[i] = null;
            }
        }

        void copyFrom(Registers other) {
            letters = other.letters;
            tests.copyFrom(other.tests);
            for (int i = 0; i < WORDS; i++) {
                words[i].copyFrom(other.words[i]);
            }
            // Languages never change, so both may hold the same ones.
            System.arraycopy(other.languages, 0, languages, 0, LANGUAGES);
        }

        int languagesHeld() {
            int held = 0;
            for (int i = 0; i < LANGUAGES; i++) {
                if (languages[i] != null) {
                    held++;
                }
            }
            return held;
        }
    }
}
