import java.util.ArrayList;
import java.util.Arrays;
import java.util.HashMap;
import java.util.HashSet;
import java.util.List;
import java.util.Map;
import java.util.Set;
import java.util.regex.Matcher;
import java.util.regex.Pattern;

/**
 * The document's words in their most naive form: words are texts, a test's state is counted anew from the whole word, languages
 * are trees, automata are refined round by round. It shares nothing with the program, which is compared with it.
 */
public final class Reference {
    private static final int BAD = -1;
    private static final int NONE = -2;
    private static final int FULL = -3;
    private static final int LARGE = -4;
    private static final int EMPTY = -5;
    // Counting anew from whole words is slow, and runs ask for the same automata again and again; null stands for too large ones.
    private static final Map<List<Object>, Automaton> EXPLORED = new HashMap<>();

    private int k = 2;
    private String[] words = {"", "", ""};
    private String input = "";
    private List<Test> tests = new ArrayList<>();
    private Language[] languages = new Language[4];
    private final Object[] rows = new Object[3];
    private Saved saved = null;

    record Saved(int k, String[] words, List<Test> tests, Language[] languages) {
    }

    record Test(int kind, String pattern, int limit) {
        int range() {
            return kind == 2 ? limit + 1 : limit;
        }

        List<Integer> state(String word) {
            List<Integer> state = new ArrayList<>();
            if (kind == 1) {
                state.add(word.length() % limit);
                return state;
            }
            for (int i = 1; i <= pattern.length(); i++) {
                long count = count(pattern.substring(0, i), word);
                state.add((int) (kind == 0 ? count % limit : Math.min(count, limit)));
            }
            return state;
        }

        int value(String word) {
            List<Integer> state = state(word);
            return state.get(state.size() - 1);
        }
    }

    /** One of the forms 0 to 3; a basic language has a test and a value, a complement one part, the others two. */
    record Language(int form, Test test, int value, Language one, Language two) {
        boolean has(String word) {
            switch (form) {
                case 0:
                    return test.value(word) == value;
                case 1:
                    return !one.has(word);
                case 2:
                    return one.has(word) && two.has(word);
                default:
                    return one.has(word) || two.has(word);
            }
        }

        List<Test> basics() {
            List<Test> found = new ArrayList<>();
            if (form == 0) {
                found.add(test);
                return found;
            }
            found.addAll(one.basics());
            if (two != null) {
                found.addAll(two.basics());
            }
            return found;
        }
    }

    /** The first words that reach the states, and where each letter leads from there. */
    record Automaton(List<String> firsts, List<List<Integer>> next) {
    }

    static long count(String pattern, String word) {
        long[][] ways = new long[pattern.length() + 1][word.length() + 1];
        Arrays.fill(ways[0], 1);
        for (int i = 1; i <= pattern.length(); i++) {
            for (int j = 1; j <= word.length(); j++) {
                boolean same = pattern.charAt(i - 1) == word.charAt(j - 1);
                ways[i][j] = ways[i][j - 1] + (same ? ways[i - 1][j - 1] : 0);
            }
        }
        return ways[pattern.length()][word.length()];
    }

    private static boolean isIn(int x, int from, int to) {
        return x >= from && x <= to;
    }

    private boolean isTest(int test) {
        return isIn(test, 0, tests.size() - 1);
    }

    /** All words of a length in lexicographic order. */
    private List<String> all(int n) {
        List<String> found = new ArrayList<>();
        if (n == 0) {
            found.add("");
            return found;
        }
        for (String shorter : all(n - 1)) {
            for (int c = 0; c < k; c++) {
                found.add(shorter + (char) ('a' + c));
            }
        }
        return found;
    }

    public int setLetters(int n) {
        if (!isIn(n, 1, 3)) {
            return BAD;
        }
        int before = k;
        k = n;
        words = new String[] {"", "", ""};
        tests = new ArrayList<>();
        languages = new Language[4];
        return before;
    }

    public int letters() {
        return k;
    }

    public int append(int word, int letter) {
        if (!isIn(word, 0, 2) || !isIn(letter, 0, k - 1)) {
            return BAD;
        }
        if (words[word].length() == 12) {
            return FULL;
        }
        words[word] += (char) ('a' + letter);
        return words[word].length();
    }

    public int clearWord(int word) {
        if (!isIn(word, 0, 2)) {
            return BAD;
        }
        int before = words[word].length();
        words[word] = "";
        return before;
    }

    public int length(int word) {
        return isIn(word, 0, 2) ? words[word].length() : BAD;
    }

    public int letter(int word, int i) {
        if (!isIn(word, 0, 2)) {
            return BAD;
        }
        return isIn(i, 0, words[word].length() - 1) ? words[word].charAt(i) - 'a' : NONE;
    }

    public int reverse(int word) {
        if (!isIn(word, 0, 2)) {
            return BAD;
        }
        String before = words[word];
        words[word] = new StringBuilder(before).reverse().toString();
        return before.equals(words[word]) ? 1 : 0;
    }

    public int concatenate(int word, int other) {
        if (!isIn(word, 0, 2) || !isIn(other, 0, 2)) {
            return BAD;
        }
        String joined = words[word] + words[other];
        if (joined.length() > 12) {
            return FULL;
        }
        words[word] = joined;
        return joined.length();
    }

    public int compare(int word, int other) {
        if (!isIn(word, 0, 2) || !isIn(other, 0, 2)) {
            return BAD;
        }
        int byLength = Integer.compare(words[word].length(), words[other].length());
        int order = byLength != 0 ? byLength : words[word].compareTo(words[other]);
        return Integer.signum(order) + 1;
    }

    public int occurrences(int pattern, int word) {
        if (!isIn(pattern, 0, 2) || !isIn(word, 0, 2)) {
            return BAD;
        }
        return (int) count(words[pattern], words[word]);
    }

    public int separate(int word, int other) {
        if (!isIn(word, 0, 2) || !isIn(other, 0, 2) || word == other) {
            return BAD;
        }
        for (int n = 1; n <= 4; n++) {
            for (String pattern : all(n)) {
                long one = count(pattern, words[word]);
                long two = count(pattern, words[other]);
                for (int m = 2; m <= 99; m++) {
                    if (one % m != two % m) {
                        words[3 - word - other] = pattern;
                        return m;
                    }
                }
            }
        }
        return NONE;
    }

    public int feed(int b) {
        if (!isIn(b, 1, 127)) {
            return BAD;
        }
        if (input.length() == 8) {
            return FULL;
        }
        input += (char) b;
        return input.length();
    }

    public int addTest() {
        if (tests.size() == 6) {
            return FULL;
        }
        String read = input;
        input = "";
        String pattern = "[" + "abc".substring(0, k) + "]{1,4}";
        Pattern syntax = Pattern.compile("(#%[2-9])|(" + pattern + "%[2-9])|(" + pattern + "\\^[1-9])");
        for (int i = 0; i < read.length(); i++) {
            Matcher start = syntax.matcher(read.substring(0, i + 1));
            if (!start.matches() && !start.hitEnd()) {
                return -100 - i;
            }
        }
        if (!syntax.matcher(read).matches()) {
            return -100 - read.length();
        }
        String head = read.substring(0, read.length() - 2);
        int kind = head.equals("#") ? 1 : read.contains("%") ? 0 : 2;
        tests.add(new Test(kind, kind == 1 ? "" : head, read.charAt(read.length() - 1) - '0'));
        return tests.size() - 1;
    }

    public int removeTest(int test) {
        if (!isTest(test)) {
            return BAD;
        }
        tests.remove(test);
        return tests.size();
    }

    public int testCount() {
        return tests.size();
    }

    public int test(int test, int what) {
        if (!isTest(test) || !isIn(what, 0, 2)) {
            return BAD;
        }
        Test read = tests.get(test);
        return what == 0 ? read.kind : what == 1 ? read.range() : read.pattern.length();
    }

    public int value(int test, int word) {
        return isTest(test) && isIn(word, 0, 2) ? tests.get(test).value(words[word]) : BAD;
    }

    private int signatureOf(String word) {
        int sum = 0;
        int weight = 1;
        for (Test test : tests) {
            sum += weight * test.value(word);
            weight *= test.range();
        }
        return sum;
    }

    public int signature(int word) {
        return isIn(word, 0, 2) ? signatureOf(words[word]) : BAD;
    }

    public int classes(int n) {
        if (!isIn(n, 0, 7)) {
            return BAD;
        }
        Set<Integer> found = new HashSet<>();
        for (String word : all(n)) {
            found.add(signatureOf(word));
        }
        return found.size();
    }

    public int classSize(int n, int signature) {
        if (!isIn(n, 0, 7)) {
            return BAD;
        }
        int found = 0;
        for (String word : all(n)) {
            found += signatureOf(word) == signature ? 1 : 0;
        }
        return found;
    }

    public int findCollision() {
        for (int n = 1; n <= 7; n++) {
            List<String> listed = all(n);
            int[] signatures = new int[listed.size()];
            for (int i = 0; i < signatures.length; i++) {
                signatures[i] = signatureOf(listed.get(i));
            }
            for (int i = 0; i < signatures.length; i++) {
                for (int j = i + 1; j < signatures.length; j++) {
                    if (signatures[i] == signatures[j]) {
                        words[0] = listed.get(i);
                        words[1] = listed.get(j);
                        return n;
                    }
                }
            }
        }
        return NONE;
    }

    private static List<List<Integer>> states(List<Test> read, String word) {
        List<List<Integer>> tuple = new ArrayList<>();
        for (Test test : read) {
            tuple.add(test.state(word));
        }
        return tuple;
    }

    private Automaton explore(List<Test> read) {
        List<Object> key = List.of(k, read);
        if (!EXPLORED.containsKey(key)) {
            EXPLORED.put(key, exploreAnew(read));
        }
        return EXPLORED.get(key);
    }

    private Automaton exploreAnew(List<Test> read) {
        Map<List<List<Integer>>, Integer> numbers = new HashMap<>();
        List<String> firsts = new ArrayList<>();
        List<List<Integer>> next = new ArrayList<>();
        numbers.put(states(read, ""), 0);
        firsts.add("");
        for (int s = 0; s < firsts.size(); s++) {
            List<Integer> targets = new ArrayList<>();
            for (int c = 0; c < k; c++) {
                String longer = firsts.get(s) + (char) ('a' + c);
                List<List<Integer>> state = states(read, longer);
                if (!numbers.containsKey(state)) {
                    if (firsts.size() == 2000) {
                        return null;
                    }
                    numbers.put(state, firsts.size());
                    firsts.add(longer);
                }
                targets.add(numbers.get(state));
            }
            next.add(targets);
        }
        return new Automaton(firsts, next);
    }

    /** The block of each state of the minimal automaton, from what each state shows at first. */
    private static List<Integer> minimize(Automaton automaton, List<Integer> shown) {
        List<Integer> blocks = shown;
        int count = new HashSet<>(blocks).size();
        while (true) {
            Map<List<Integer>, Integer> numbers = new HashMap<>();
            List<Integer> finer = new ArrayList<>();
            for (int s = 0; s < blocks.size(); s++) {
                List<Integer> key = new ArrayList<>();
                key.add(blocks.get(s));
                for (int target : automaton.next.get(s)) {
                    key.add(blocks.get(target));
                }
                numbers.putIfAbsent(key, numbers.size());
                finer.add(numbers.get(key));
            }
            if (numbers.size() == count) {
                return finer;
            }
            blocks = finer;
            count = numbers.size();
        }
    }

    private List<Integer> values(Automaton automaton, Test test) {
        List<Integer> values = new ArrayList<>();
        for (String word : automaton.firsts) {
            values.add(test.value(word));
        }
        return values;
    }

    private List<Test> only(int test) {
        List<Test> read = new ArrayList<>();
        read.add(tests.get(test));
        return read;
    }

    public int states(int test) {
        if (!isTest(test)) {
            return BAD;
        }
        Automaton automaton = explore(only(test));
        return automaton == null ? LARGE : automaton.firsts.size();
    }

    public int minimalStates(int test) {
        if (!isTest(test)) {
            return BAD;
        }
        List<List<Integer>> letters = minimalLetters(test);
        return letters == null ? LARGE : letters.get(0).size();
    }

    /** For each letter the mapping of the states of the minimal automaton; null if the automaton is too large. */
    private List<List<Integer>> minimalLetters(int test) {
        Automaton automaton = explore(only(test));
        if (automaton == null) {
            return null;
        }
        List<Integer> blocks = minimize(automaton, values(automaton, tests.get(test)));
        int count = new HashSet<>(blocks).size();
        List<List<Integer>> letters = new ArrayList<>();
        for (int c = 0; c < k; c++) {
            Integer[] mapping = new Integer[count];
            for (int s = 0; s < blocks.size(); s++) {
                mapping[blocks.get(s)] = blocks.get(automaton.next.get(s).get(c));
            }
            letters.add(Arrays.asList(mapping));
        }
        return letters;
    }

    public int monoidSize(int test) {
        if (!isTest(test)) {
            return BAD;
        }
        List<List<Integer>> letters = minimalLetters(test);
        if (letters == null) {
            return LARGE;
        }
        List<Integer> identity = new ArrayList<>();
        for (int q = 0; q < letters.get(0).size(); q++) {
            identity.add(q);
        }
        Set<List<Integer>> known = new HashSet<>();
        List<List<Integer>> open = new ArrayList<>();
        known.add(identity);
        open.add(identity);
        for (int e = 0; e < open.size() && open.size() <= 400; e++) {
            for (List<Integer> letter : letters) {
                List<Integer> product = new ArrayList<>();
                for (int q : open.get(e)) {
                    product.add(letter.get(q));
                }
                if (known.add(product)) {
                    open.add(product);
                }
            }
        }
        return open.size() > 400 ? LARGE : open.size();
    }

    public int isGroup(int test) {
        if (!isTest(test)) {
            return BAD;
        }
        List<List<Integer>> letters = minimalLetters(test);
        if (letters == null) {
            return LARGE;
        }
        for (List<Integer> letter : letters) {
            if (new HashSet<>(letter).size() < letter.size()) {
                return 0;
            }
        }
        return 1;
    }

    public int setBasic(int language, int test, int value) {
        if (!isIn(language, 0, 3) || !isTest(test) || !isIn(value, 0, tests.get(test).range() - 1)) {
            return BAD;
        }
        languages[language] = new Language(0, tests.get(test), value, null, null);
        return 1;
    }

    public int complement(int target, int language) {
        if (!isIn(target, 0, 3) || !isIn(language, 0, 3)) {
            return BAD;
        }
        if (languages[language] == null) {
            return EMPTY;
        }
        languages[target] = new Language(1, null, 0, languages[language], null);
        return languages[target].basics().size();
    }

    public int intersect(int target, int language, int other) {
        return join(2, target, language, other);
    }

    public int unite(int target, int language, int other) {
        return join(3, target, language, other);
    }

    private int join(int form, int target, int language, int other) {
        if (!isIn(target, 0, 3) || !isIn(language, 0, 3) || !isIn(other, 0, 3)) {
            return BAD;
        }
        if (languages[language] == null || languages[other] == null) {
            return EMPTY;
        }
        Language joined = new Language(form, null, 0, languages[language], languages[other]);
        if (joined.basics().size() > 4) {
            return FULL;
        }
        languages[target] = joined;
        return joined.basics().size();
    }

    public int clearLanguage(int language) {
        if (!isIn(language, 0, 3)) {
            return BAD;
        }
        int held = languages[language] == null ? 0 : 1;
        languages[language] = null;
        return held;
    }

    public int form(int language) {
        if (!isIn(language, 0, 3)) {
            return BAD;
        }
        return languages[language] == null ? EMPTY : languages[language].form;
    }

    public int contains(int language, int word) {
        if (!isIn(language, 0, 3) || !isIn(word, 0, 2)) {
            return BAD;
        }
        if (languages[language] == null) {
            return EMPTY;
        }
        return languages[language].has(words[word]) ? 1 : 0;
    }

    public int languageStates(int language) {
        if (!isIn(language, 0, 3)) {
            return BAD;
        }
        Language read = languages[language];
        if (read == null) {
            return EMPTY;
        }
        Automaton automaton = explore(read.basics());
        if (automaton == null) {
            return LARGE;
        }
        List<Integer> members = new ArrayList<>();
        for (String word : automaton.firsts) {
            members.add(read.has(word) ? 1 : 0);
        }
        return new HashSet<>(minimize(automaton, members)).size();
    }

    public long countWords(int language, int n) {
        if (!isIn(language, 0, 3) || !isIn(n, 0, 20)) {
            return BAD;
        }
        Language read = languages[language];
        if (read == null) {
            return EMPTY;
        }
        Automaton automaton = explore(read.basics());
        return automaton == null ? LARGE : countIn(read, automaton, n);
    }

    private long countIn(Language read, Automaton automaton, int n) {
        long found = 0;
        if (n <= 5) {
            for (String word : all(n)) {
                found += read.has(word) ? 1 : 0;
            }
            return found;
        }
        long[] paths = new long[automaton.firsts.size()];
        paths[0] = 1;
        for (int i = 0; i < n; i++) {
            long[] longer = new long[paths.length];
            for (int s = 0; s < paths.length; s++) {
                for (int target : automaton.next.get(s)) {
                    longer[target] += paths[s];
                }
            }
            paths = longer;
        }
        for (int s = 0; s < paths.length; s++) {
            found += read.has(automaton.firsts.get(s)) ? paths[s] : 0;
        }
        return found;
    }

    public int firstWord(int language, int word) {
        if (!isIn(language, 0, 3) || !isIn(word, 0, 2)) {
            return BAD;
        }
        Language read = languages[language];
        if (read == null) {
            return EMPTY;
        }
        Automaton automaton = explore(read.basics());
        if (automaton == null) {
            return LARGE;
        }
        for (String first : automaton.firsts) {
            if (read.has(first)) {
                words[word] = first.length() <= 12 ? first : words[word];
                return first.length();
            }
        }
        return NONE;
    }

    public int firstDifference(int language, int other, int word) {
        if (!isIn(language, 0, 3) || !isIn(other, 0, 3) || !isIn(word, 0, 2)) {
            return BAD;
        }
        Language one = languages[language];
        Language two = languages[other];
        if (one == null || two == null) {
            return EMPTY;
        }
        List<Test> read = new ArrayList<>(one.basics());
        read.addAll(two.basics());
        Automaton automaton = explore(read);
        if (automaton == null) {
            return LARGE;
        }
        for (String first : automaton.firsts) {
            if (one.has(first) != two.has(first)) {
                words[word] = first.length() <= 12 ? first : words[word];
                return first.length();
            }
        }
        return NONE;
    }

    public int newRow(int row, int type, int size) {
        if (!isIn(row, 0, 2) || !isIn(type, -1, 1) || (type >= 0 && size > 21)) {
            return BAD;
        }
        if (type >= 0 && size < 0) {
            return -14;
        }
        rows[row] = type < 0 ? null : type == 0 ? new short[size] : new int[size];
        return 1;
    }

    public int setElement(int row, int i, int value) {
        if (!isIn(row, 0, 2)) {
            return BAD;
        }
        if (rows[row] == null) {
            return -11;
        }
        if (!isIn(i, 0, size(rows[row]) - 1)) {
            return -13;
        }
        put(rows[row], i, value);
        return 1;
    }

    private static int size(Object row) {
        return row instanceof short[] shorts ? shorts.length : ((int[]) row).length;
    }

    private static void put(Object row, int i, long value) {
        if (row instanceof short[] shorts) {
            shorts[i] = (short) value;
        } else {
            ((int[]) row)[i] = (int) value;
        }
    }

    public long element(int row, int i) {
        if (!isIn(row, 0, 2) || rows[row] == null || !isIn(i, 0, size(rows[row]) - 1)) {
            return Long.MIN_VALUE;
        }
        return rows[row] instanceof short[] shorts ? shorts[i] : ((int[]) rows[row])[i];
    }

    public int copyElements(int source, int from, int target, int to, int n) {
        if (!isIn(source, 0, 2) || !isIn(target, 0, 2)) {
            return BAD;
        }
        if (rows[source] == null || rows[target] == null) {
            return -11;
        }
        try {
            System.arraycopy(rows[source], from, rows[target], to, n);
        } catch (ArrayStoreException e) {
            return -6;
        } catch (IndexOutOfBoundsException e) {
            return -13;
        }
        return n;
    }

    public int fillCounts(int row, int language) {
        if (!isIn(row, 0, 2) || !isIn(language, 0, 3)) {
            return BAD;
        }
        Language read = languages[language];
        if (read == null) {
            return EMPTY;
        }
        if (rows[row] == null) {
            return -11;
        }
        Automaton automaton = explore(read.basics());
        if (automaton == null) {
            return LARGE;
        }
        for (int i = 0; i < size(rows[row]); i++) {
            put(rows[row], i, countIn(read, automaton, i));
        }
        return size(rows[row]);
    }

    private int held() {
        int held = 0;
        for (Language language : languages) {
            held += language == null ? 0 : 1;
        }
        return held;
    }

    public int saveSnapshot() {
        saved = new Saved(k, words.clone(), new ArrayList<>(tests), languages.clone());
        return held();
    }

    public int restoreSnapshot() {
        if (saved == null) {
            return NONE;
        }
        k = saved.k;
        words = saved.words.clone();
        tests = new ArrayList<>(saved.tests);
        languages = saved.languages.clone();
        return held();
    }
}
