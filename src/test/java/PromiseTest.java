/** Each promise of the document by runs of calls on new objects: ordinary inputs, the named edges, wrong inputs. */
public final class PromiseTest {
    private static int wrong = 0;

    private static void promise(int number, String... lines) {
        wrong += Script.run("promise " + number, lines);
    }

    public static void main(String[] args) {
        newObject();
        alphabet();
        wordCalls();
        occurrenceCalls();
        syntax();
        testCalls();
        signatureCalls();
        automata();
        languageRegisters();
        languageAutomata();
        rowCalls();
        snapshots();
        System.out.println(wrong == 0 ? "all answers are as due" : wrong + " answers are not as due");
        if (wrong != 0) {
            System.exit(1);
        }
    }

    private static void newObject() {
        promise(1, "letters() = 2; length(0) = 0; length(1) = 0; length(2) = 0; testCount() = 0; addTest() = -100",
            "form(0) = EMPTY_REGISTER; form(1) = EMPTY_REGISTER; form(2) = EMPTY_REGISTER; form(3) = EMPTY_REGISTER",
            "setElement(0, 0, 1) = NULL_ROW; setElement(1, 0, 1) = NULL_ROW; setElement(2, 0, 1) = NULL_ROW",
            "restoreSnapshot() = NONE; saveSnapshot() = 0");
    }

    private static void alphabet() {
        promise(2, "setLetters(3) = 2; setLetters(1) = 3; setLetters(1) = 1; setLetters(2) = 1",
            "setLetters(0) = BAD_ARGUMENT; setLetters(4) = BAD_ARGUMENT; setLetters(-1) = BAD_ARGUMENT",
            "setLetters(MAX) = BAD_ARGUMENT; setLetters(MIN) = BAD_ARGUMENT; letters() = 2");
        // All is emptied even if the number stays; the input and the rows are not named, so they stay.
        promise(2, "word(0, \"ab\") = 2; word(2, \"b\") = 1; add(\"ab%2\") = 0; setBasic(3, 0, 1) = 1; newRow(1, 1, 4) = 1",
            "setElement(1, 2, 9) = 1; feed(35) = 1; setLetters(9) = BAD_ARGUMENT; text(0) = \"ab\"; testCount() = 1; form(3) = 0",
            "setLetters(2) = 2; length(0) = 0; length(2) = 0; testCount() = 0; form(3) = EMPTY_REGISTER; element(1, 2) = 9",
            "feed(37) = 2; feed(53) = 3; addTest() = 0; test(0, 0) = 1; test(0, 1) = 5");
        promise(2, "feed(99) = 1; setLetters(3) = 2; feed(37) = 2; feed(50) = 3; addTest() = 0");
        promise(3, "letters() = 2; setLetters(1) = 2; letters() = 1; setLetters(3) = 1; letters() = 3");
    }

    private static void wordCalls() {
        promise(4, "append(0, 1) = 1; append(0, 0) = 2; append(2, 0) = 1; text(0) = \"ba\"; text(1) = \"\"; text(2) = \"a\"",
            "append(0, 2) = BAD_ARGUMENT; append(0, -1) = BAD_ARGUMENT; append(3, 0) = BAD_ARGUMENT; append(-1, 0) = BAD_ARGUMENT",
            "text(0) = \"ba\"; setLetters(3) = 2; append(1, 2) = 1; append(1, 3) = BAD_ARGUMENT; text(1) = \"c\"",
            "setLetters(1) = 3; append(1, 0) = 1; append(1, 1) = BAD_ARGUMENT");
        promise(4, "word(1, \"abababababa\") = 11; append(1, 1) = 12; append(1, 0) = FULL; append(1, 2) = BAD_ARGUMENT",
            "text(1) = \"abababababab\"; append(MAX, 0) = BAD_ARGUMENT; append(MIN, 0) = BAD_ARGUMENT; append(1, MIN) = BAD_ARGUMENT");
        promise(5, "word(1, \"abb\") = 3; word(0, \"a\") = 1; clearWord(1) = 3; clearWord(1) = 0; length(1) = 0; length(0) = 1",
            "clearWord(-1) = BAD_ARGUMENT; clearWord(3) = BAD_ARGUMENT; append(1, 1) = 1; text(1) = \"b\"");
        promise(6, "length(0) = 0; word(0, \"ab\") = 2; length(0) = 2; length(1) = 0; length(3) = BAD_ARGUMENT",
            "length(-1) = BAD_ARGUMENT; length(MAX) = BAD_ARGUMENT; length(MIN) = BAD_ARGUMENT");
        promise(7, "word(2, \"ab\") = 2; letter(2, 0) = 0; letter(2, 1) = 1; letter(2, 2) = NONE; letter(2, -1) = NONE",
            "letter(2, MAX) = NONE; letter(2, MIN) = NONE; letter(0, 0) = NONE; letter(3, 0) = BAD_ARGUMENT",
            "letter(-1, 0) = BAD_ARGUMENT; letter(-1, -1) = BAD_ARGUMENT; word(2, \"abbbabababab\") = 12; letter(2, 11) = 1; letter(2, 12) = NONE");
        promise(7, "word(0, \"abab\") = 4; clearWord(0) = 4; letter(0, 0) = NONE");
        promise(8, "reverse(0) = 1; word(0, \"aab\") = 3; reverse(0) = 0; text(0) = \"baa\"; word(1, \"aba\") = 3; reverse(1) = 1",
            "text(1) = \"aba\"; word(2, \"abba\") = 4; reverse(2) = 1; word(2, \"aabb\") = 4; reverse(2) = 0; text(2) = \"bbaa\"",
            "reverse(3) = BAD_ARGUMENT; reverse(-1) = BAD_ARGUMENT; word(0, \"a\") = 1; reverse(0) = 1; text(0) = \"a\"",
            "word(0, \"abaaba\") = 6; reverse(0) = 1; word(0, \"abbbba\") = 6; reverse(0) = 1; word(0, \"aababa\") = 6; reverse(0) = 0");
        promise(9, "word(0, \"aab\") = 3; word(1, \"ba\") = 2; concatenate(0, 1) = 5; text(0) = \"aabba\"; text(1) = \"ba\"",
            "concatenate(1, 1) = 4; text(1) = \"baba\"; concatenate(2, 2) = 0; concatenate(0, 2) = 5; concatenate(2, 0) = 5",
            "text(2) = \"aabba\"; concatenate(3, 0) = BAD_ARGUMENT; concatenate(0, 3) = BAD_ARGUMENT; concatenate(-1, 0) = BAD_ARGUMENT",
            "concatenate(0, -1) = BAD_ARGUMENT; text(0) = \"aabba\"");
        promise(9, "word(0, \"ababab\") = 6; word(1, \"bbbbbbb\") = 7; concatenate(0, 1) = FULL; text(0) = \"ababab\"",
            "concatenate(1, 1) = FULL; concatenate(0, 0) = 12; text(0) = \"abababababab\"; concatenate(0, 2) = 12; concatenate(0, 0) = FULL");
        promise(10, "compare(0, 1) = 1; compare(2, 2) = 1; word(0, \"b\") = 1; word(1, \"aa\") = 2; compare(0, 1) = 0; compare(1, 0) = 2",
            "word(0, \"ab\") = 2; compare(0, 1) = 2; compare(1, 0) = 0; word(1, \"ab\") = 2; compare(0, 1) = 1; compare(0, 2) = 2",
            "word(1, \"bb\") = 2; compare(0, 1) = 0; compare(1, 0) = 2; word(0, \"ba\") = 2; compare(0, 1) = 0; compare(1, 0) = 2; clearWord(0) = 2; compare(0, 2) = 1",
            "compare(0, 3) = BAD_ARGUMENT; compare(3, 0) = BAD_ARGUMENT; compare(-1, 0) = BAD_ARGUMENT; compare(0, -1) = BAD_ARGUMENT");
    }

    private static void occurrenceCalls() {
        promise(11, "word(0, \"aaaaaaaaaaaa\") = 12; word(1, \"aaaaaa\") = 6; occurrences(1, 0) = 924; occurrences(0, 1) = 0",
            "occurrences(2, 0) = 1; occurrences(2, 2) = 1; occurrences(0, 2) = 0; occurrences(0, 0) = 1",
            "word(1, \"ab\") = 2; occurrences(1, 0) = 0; word(0, \"aabb\") = 4; occurrences(1, 0) = 4; word(1, \"abb\") = 3",
            "occurrences(1, 0) = 2; occurrences(1, 3) = BAD_ARGUMENT; occurrences(3, 1) = BAD_ARGUMENT",
            "occurrences(-1, 0) = BAD_ARGUMENT; occurrences(0, -1) = BAD_ARGUMENT");
        // A letter of the text serves a repeated letter of the pattern once.
        promise(11, "word(0, \"aaa\") = 3; word(1, \"aa\") = 2; occurrences(1, 0) = 3; word(0, \"a\") = 1; occurrences(1, 0) = 0");
        promise(12, "word(0, \"abba\") = 4; word(1, \"baab\") = 4; separate(0, 1) = 2; text(2) = \"aab\"",
            "text(0) = \"abba\"; text(1) = \"baab\"");
        // The third register is the one that is not named.
        promise(12, "word(2, \"aaa\") = 3; word(0, \"a\") = 1; separate(2, 0) = 3; text(1) = \"a\"; word(1, \"aaaaaaa\") = 7",
            "separate(1, 0) = 4; text(2) = \"a\"; word(2, \"aaaaaaaaaaaa\") = 12; clearWord(1) = 7; word(0, \"bb\") = 2; separate(1, 2) = 5; text(0) = \"a\"");
        promise(12, "word(0, \"ab\") = 2; word(1, \"ab\") = 2; word(2, \"bbb\") = 3; separate(0, 1) = NONE; text(2) = \"bbb\"",
            "separate(0, 0) = BAD_ARGUMENT; separate(2, 2) = BAD_ARGUMENT; separate(0, 3) = BAD_ARGUMENT; separate(3, 0) = BAD_ARGUMENT",
            "separate(-1, 0) = BAD_ARGUMENT; separate(0, -1) = BAD_ARGUMENT; separate(4, 4) = BAD_ARGUMENT; text(2) = \"bbb\"");
        promise(12, "setLetters(3) = 2; word(0, \"cab\") = 3; word(1, \"abc\") = 3; separate(1, 0) = 2; text(2) = \"ac\"",
            "word(0, \"c\") = 1; word(1, \"b\") = 1; separate(0, 1) = 2; text(2) = \"b\"");
        promise(12, "separate(0, 1) = NONE; setLetters(1) = 2; word(0, \"aa\") = 2; separate(0, 1) = 3; text(2) = \"a\"");
        // These differ in a pattern of four letters first.
        promise(12, "word(0, \"abbabaab\") = 8; word(1, \"baababba\") = 8; separate(0, 1) = 3; text(2) = \"aaab\"");
    }

    private static void syntax() {
        promise(13, "feed(1) = 1; feed(127) = 2; feed(0) = BAD_ARGUMENT; feed(128) = BAD_ARGUMENT; feed(-1) = BAD_ARGUMENT",
            "feed(97) = 3; feed(97) = 4; feed(97) = 5; feed(97) = 6; feed(97) = 7; feed(97) = 8; feed(97) = FULL",
            "feed(0) = BAD_ARGUMENT; feed(MAX) = BAD_ARGUMENT; feed(MIN) = BAD_ARGUMENT; addTest() = -100; feed(97) = 1");
        promise(14, "add(\"a%2\") = 0; add(\"abab%9\") = 1; add(\"#%2\") = 2; add(\"#%9\") = 3; add(\"b^1\") = 4; add(\"bbbb^9\") = 5",
            "test(0, 0) = 0; test(1, 1) = 9; test(2, 0) = 1; test(3, 1) = 9; test(4, 0) = 2; test(4, 1) = 2; test(5, 1) = 10");
        promise(14, "add(\"\") = -100; add(\"%2\") = -100; add(\"^2\") = -100; add(\"2\") = -100; add(\"A%2\") = -100; add(\"c%2\") = -100",
            "add(\"#\") = -101; add(\"##\") = -101; add(\"#a\") = -101; add(\"#^3\") = -101; add(\"#%\") = -102; add(\"#%1\") = -102",
            "add(\"#%a\") = -102; add(\"#%22\") = -103; add(\"#%2a\") = -103; add(\"a\") = -101; add(\"a#\") = -101; add(\"a2\") = -101",
            "add(\"ac%2\") = -101; add(\"a%\") = -102; add(\"a%0\") = -102; add(\"a%1\") = -102; add(\"a%a\") = -102; add(\"a%%\") = -102",
            "add(\"a%:\") = -102; add(\"a%/\") = -102; add(\"a^\") = -102; add(\"a^0\") = -102; add(\"a^^\") = -102; add(\"a^/\") = -102",
            "add(\"a^:\") = -102; add(\"a%2%\") = -103; add(\"a^10\") = -103; add(\"abab\") = -104; add(\"ababa\") = -104; add(\"ababa%2\") = -104",
            "add(\"abab%\") = -105; add(\"abab%1\") = -105; add(\"abab%22\") = -106; add(\"abab^9aa\") = -106; add(\"aaaaaaaa\") = -104",
            "testCount() = 0; feed(97) = 1");
        promise(14, "setLetters(3) = 2; add(\"cc%2\") = 0; add(\"d%2\") = -100; setLetters(1) = 3; add(\"b%2\") = -100; add(\"ab^2\") = -101",
            "add(\"a^1\") = 0");
        // FULL comes before a syntax error and keeps the input, which can be used later.
        promise(14, "add(\"a%2\") = 0; add(\"a%3\") = 1; add(\"a%4\") = 2; add(\"a%5\") = 3; add(\"a%6\") = 4; add(\"a%7\") = 5",
            "addTest() = FULL; add(\"b^3\") = FULL; addTest() = FULL; testCount() = 6; feed(97) = 4; removeTest(0) = 5",
            "addTest() = -103; feed(98) = 1; feed(94) = 2; feed(51) = 3; addTest() = 5; test(5, 0) = 2; feed(97) = 1");
    }

    private static void testCalls() {
        promise(15, "removeTest(0) = BAD_ARGUMENT; add(\"a%2\") = 0; add(\"b^5\") = 1; add(\"#%7\") = 2; removeTest(3) = BAD_ARGUMENT",
            "removeTest(-1) = BAD_ARGUMENT; removeTest(1) = 2; test(0, 1) = 2; test(1, 0) = 1; test(1, 1) = 7; test(2, 0) = BAD_ARGUMENT",
            "removeTest(1) = 1; removeTest(1) = BAD_ARGUMENT; test(0, 0) = 0; removeTest(0) = 0; removeTest(0) = BAD_ARGUMENT",
            "testCount() = 0; removeTest(MAX) = BAD_ARGUMENT; removeTest(MIN) = BAD_ARGUMENT");
        promise(16, "testCount() = 0; add(\"a%2\") = 0; testCount() = 1; add(\"a%\") = -102; testCount() = 1; add(\"a^2\") = 1; testCount() = 2",
            "removeTest(0) = 1; testCount() = 1");
        promise(17, "add(\"aba%4\") = 0; add(\"#%5\") = 1; add(\"ab^9\") = 2; test(0, 0) = 0; test(0, 1) = 4; test(0, 2) = 3",
            "test(1, 0) = 1; test(1, 1) = 5; test(1, 2) = 0; test(2, 0) = 2; test(2, 1) = 10; test(2, 2) = 2",
            "test(0, 3) = BAD_ARGUMENT; test(0, -1) = BAD_ARGUMENT; test(3, 0) = BAD_ARGUMENT; test(-1, 0) = BAD_ARGUMENT",
            "test(0, MAX) = BAD_ARGUMENT; test(0, MIN) = BAD_ARGUMENT; test(MAX, 0) = BAD_ARGUMENT");
        promise(18, "add(\"ab%3\") = 0; add(\"#%4\") = 1; add(\"ab^2\") = 2; add(\"aa%9\") = 3; add(\"aaaa^9\") = 4; value(0, 0) = 0; value(2, 0) = 0",
            "word(0, \"aabbb\") = 5; value(0, 0) = 0; value(1, 0) = 1; value(2, 0) = 2; value(3, 0) = 1; word(1, \"ab\") = 2; value(0, 1) = 1",
            "value(2, 1) = 1; value(1, 1) = 2; word(2, \"aaaaaaaaaaaa\") = 12; value(3, 2) = 3; value(4, 2) = 9; value(1, 2) = 0",
            "value(5, 0) = BAD_ARGUMENT; value(-1, 0) = BAD_ARGUMENT; value(0, 3) = BAD_ARGUMENT; value(0, -1) = BAD_ARGUMENT");
    }

    private static void signatureCalls() {
        promise(19, "word(0, \"aab\") = 3; signature(0) = 0; add(\"a%3\") = 0; add(\"#%5\") = 1; add(\"b^4\") = 2; signature(0) = 26",
            "signature(1) = 0; removeTest(0) = 2; signature(0) = 8; signature(3) = BAD_ARGUMENT; signature(-1) = BAD_ARGUMENT");
        // The greatest signature of six tests of range ten.
        promise(19, "add(\"a^9\") = 0; add(\"a^9\") = 1; add(\"a^9\") = 2; add(\"a^9\") = 3; add(\"a^9\") = 4; add(\"a^9\") = 5",
            "word(0, \"aaaaaaaaaa\") = 10; signature(0) = 999999; word(1, \"ba\") = 2; signature(1) = 111111");
        promise(20, "classes(0) = 1; classes(7) = 1; classes(8) = BAD_ARGUMENT; classes(-1) = BAD_ARGUMENT; add(\"a%9\") = 0; classes(0) = 1",
            "classes(1) = 2; classes(7) = 8; add(\"ab^9\") = 1; classes(2) = 4; classes(3) = 8; setLetters(3) = 2; add(\"a%8\") = 0; add(\"b%8\") = 1",
            "classes(7) = 36; classes(MAX) = BAD_ARGUMENT; classes(MIN) = BAD_ARGUMENT");
        promise(21, "classSize(3, 0) = 8; classSize(3, 1) = 0; classSize(0, 0) = 1; add(\"a%2\") = 0; classSize(7, 0) = 64; classSize(7, 1) = 64",
            "classSize(7, 2) = 0; classSize(7, -1) = 0; classSize(7, MIN) = 0; classSize(7, MAX) = 0; classSize(0, 1) = 0; classSize(8, 0) = BAD_ARGUMENT",
            "classSize(-1, 0) = BAD_ARGUMENT; classSize(-1, -1) = BAD_ARGUMENT; setLetters(3) = 2; classSize(7, 0) = 2187; add(\"c^9\") = 0; classSize(7, 7) = 1",
            "classSize(7, 6) = 14; classSize(7, 0) = 128");
        promise(22, "findCollision() = 1; text(0) = \"a\"; text(1) = \"b\"; text(2) = \"\"; add(\"a%9\") = 0; findCollision() = 2",
            "text(0) = \"ab\"; text(1) = \"ba\"; add(\"ab%9\") = 1; findCollision() = 4; text(0) = \"abba\"; text(1) = \"baab\"");
        // The first word has two partners, and a later word a nearer one.
        promise(22, "setLetters(3) = 2; findCollision() = 1; text(0) = \"a\"; text(1) = \"b\"; add(\"b%2\") = 0; findCollision() = 1; text(0) = \"a\"; text(1) = \"c\"",
            "removeTest(0) = 0; add(\"a%2\") = 0; findCollision() = 1; text(0) = \"b\"; text(1) = \"c\"");
        promise(22, "setLetters(1) = 2; word(0, \"aa\") = 2; word(1, \"a\") = 1; findCollision() = NONE; text(0) = \"aa\"; text(1) = \"a\"");
        promise(22, "add(\"a^9\") = 0; add(\"ab^9\") = 1; add(\"ab%8\") = 2; add(\"aba%9\") = 3; add(\"abba%9\") = 4; add(\"aab%9\") = 5; classes(6) = 64; classes(7) = 126",
            "findCollision() = 7; text(0) = \"abbaaab\"; text(1) = \"baaabba\"");
        // The occurrences of these patterns tell all words of up to seven letters apart.
        promise(22, "add(\"a%9\") = 0; add(\"ba%8\") = 1; add(\"ba%9\") = 2; add(\"aab%9\") = 3; add(\"baba%9\") = 4; add(\"bbaa%7\") = 5; classes(7) = 128",
            "word(0, \"b\") = 1; word(1, \"bb\") = 2; findCollision() = NONE; text(0) = \"b\"; text(1) = \"bb\"");
    }

    private static void automata() {
        promise(23, "states(0) = BAD_ARGUMENT; add(\"ab%3\") = 0; add(\"ba^2\") = 1; add(\"#%7\") = 2; add(\"abab%7\") = 3; add(\"abab%6\") = 4; states(0) = 9",
            "states(1) = 7; states(2) = 7; states(3) = TOO_LARGE; states(4) = 648; states(5) = BAD_ARGUMENT; states(-1) = BAD_ARGUMENT",
            "states(MAX) = BAD_ARGUMENT; states(MIN) = BAD_ARGUMENT; add(\"aaaa%9\") = 5; states(5) = 27");
        promise(23, "setLetters(3) = 2; add(\"cbba^8\") = 0; states(0) = 1839; add(\"cbba^9\") = 1; states(1) = TOO_LARGE");
        promise(23, "setLetters(1) = 2; add(\"aaa^4\") = 0; states(0) = 5; add(\"aaaa%8\") = 1; states(1) = 32; add(\"a^1\") = 2; states(2) = 2");
        promise(24, "minimalStates(0) = BAD_ARGUMENT; add(\"ab%3\") = 0; add(\"ba^2\") = 1; add(\"#%7\") = 2; add(\"abab%7\") = 3; minimalStates(0) = 9",
            "minimalStates(1) = 5; minimalStates(2) = 7; minimalStates(3) = TOO_LARGE; minimalStates(4) = BAD_ARGUMENT; minimalStates(-1) = BAD_ARGUMENT",
            "add(\"abab%6\") = 4; minimalStates(4) = 648; add(\"a^9\") = 5; minimalStates(5) = 10");
        promise(25, "monoidSize(0) = BAD_ARGUMENT; add(\"ab%3\") = 0; add(\"ba^2\") = 1; add(\"#%7\") = 2; add(\"abab%7\") = 3; add(\"ab%8\") = 4",
            "monoidSize(0) = 27; monoidSize(1) = 11; monoidSize(2) = 7; monoidSize(3) = TOO_LARGE; monoidSize(4) = TOO_LARGE; states(4) = 64",
            "add(\"ab%7\") = 5; monoidSize(5) = 343; monoidSize(6) = BAD_ARGUMENT; monoidSize(-1) = BAD_ARGUMENT; monoidSize(0) = 27");
        // More states of the minimal automaton than the monoid may have elements.
        promise(25, "add(\"abab%6\") = 0; minimalStates(0) = 648; monoidSize(0) = TOO_LARGE; setLetters(3) = 2; add(\"abc%2\") = 0; monoidSize(0) = 64",
            "setLetters(1) = 3; add(\"a^1\") = 0; monoidSize(0) = 2");
        // The largest monoid of a test that is allowed, and the smallest one that is not.
        promise(25, "setLetters(3) = 2; add(\"abba^7\") = 0; monoidSize(0) = 391; add(\"abab^9\") = 1; monoidSize(1) = TOO_LARGE; minimalStates(1) = 70; monoidSize(0) = 391");
        promise(26, "isGroup(0) = BAD_ARGUMENT; add(\"ab%3\") = 0; add(\"ba^2\") = 1; add(\"#%7\") = 2; add(\"abab%7\") = 3; add(\"ab%9\") = 4",
            "isGroup(0) = 1; isGroup(1) = 0; isGroup(2) = 1; isGroup(3) = TOO_LARGE; isGroup(4) = 1; monoidSize(4) = TOO_LARGE",
            "isGroup(5) = BAD_ARGUMENT; isGroup(-1) = BAD_ARGUMENT; add(\"abab%6\") = 5; isGroup(5) = 1; removeTest(5) = 5; add(\"a^1\") = 5; isGroup(5) = 0");
    }

    private static void languageRegisters() {
        promise(27, "setBasic(0, 0, 0) = BAD_ARGUMENT; add(\"a%2\") = 0; add(\"a^2\") = 1; setBasic(0, 0, 0) = 1; setBasic(3, 1, 2) = 1; form(0) = 0; form(3) = 0",
            "setBasic(0, 0, 2) = BAD_ARGUMENT; setBasic(0, 0, -1) = BAD_ARGUMENT; setBasic(0, 1, 3) = BAD_ARGUMENT; setBasic(0, 2, 0) = BAD_ARGUMENT",
            "setBasic(0, -1, 0) = BAD_ARGUMENT; setBasic(4, 0, 0) = BAD_ARGUMENT; setBasic(-1, 0, 0) = BAD_ARGUMENT; contains(0, 0) = 1; contains(3, 0) = 0",
            "setBasic(0, 0, 1) = 1; contains(0, 0) = 0");
        // The language keeps its test when the tests change.
        promise(27, "add(\"a%2\") = 0; setBasic(0, 0, 1) = 1; removeTest(0) = 0; add(\"b%3\") = 0; word(0, \"ab\") = 2; contains(0, 0) = 1; word(0, \"bb\") = 2; contains(0, 0) = 0");
        promise(28, "add(\"a%2\") = 0; setBasic(0, 0, 1) = 1; complement(1, 0) = 1; contains(0, 0) = 0; contains(1, 0) = 1; form(1) = 1; form(0) = 0",
            "complement(0, 0) = 1; form(0) = 1; contains(0, 0) = 1; complement(0, 0) = 1; form(0) = 1; contains(0, 0) = 0",
            "complement(0, 3) = EMPTY_REGISTER; complement(4, 3) = BAD_ARGUMENT; complement(0, 4) = BAD_ARGUMENT; complement(-1, 0) = BAD_ARGUMENT",
            "complement(0, -1) = BAD_ARGUMENT; form(3) = EMPTY_REGISTER; intersect(2, 0, 1) = 2; unite(2, 2, 2) = 4; complement(3, 2) = 4; form(3) = 1");
        // 512 calls, of which the last one still answers.
        promise(28, "add(\"a%2\") = 0; setBasic(0, 0, 1) = 1; 506 x complement(0, 0) = 1; contains(0, 0) = 0");
        promise(29, "add(\"a%2\") = 0; add(\"b%2\") = 1; setBasic(0, 0, 1) = 1; setBasic(1, 1, 1) = 1; intersect(2, 0, 1) = 2; form(2) = 2",
            "word(0, \"ab\") = 2; word(1, \"a\") = 1; word(2, \"b\") = 1; contains(2, 0) = 1; contains(2, 1) = 0; contains(2, 2) = 0",
            "intersect(0, 0, 3) = EMPTY_REGISTER; intersect(0, 3, 0) = EMPTY_REGISTER; intersect(4, 3, 3) = BAD_ARGUMENT; intersect(0, 4, 3) = BAD_ARGUMENT",
            "intersect(0, 3, 4) = BAD_ARGUMENT; intersect(-1, 0, 0) = BAD_ARGUMENT; intersect(0, -1, 0) = BAD_ARGUMENT; intersect(0, 0, -1) = BAD_ARGUMENT",
            "intersect(0, 0, 2) = 3; form(0) = 2; contains(0, 0) = 1; contains(0, 1) = 0; intersect(3, 0, 2) = FULL; form(3) = EMPTY_REGISTER",
            "intersect(0, 0, 1) = 4; intersect(0, 0, 1) = FULL; intersect(2, 2, 2) = 4; intersect(1, 1, 3) = EMPTY_REGISTER");
        promise(30, "add(\"a%2\") = 0; add(\"b%2\") = 1; setBasic(0, 0, 1) = 1; setBasic(1, 1, 1) = 1; unite(2, 0, 1) = 2; form(2) = 3; contains(2, 0) = 0",
            "word(0, \"ab\") = 2; word(1, \"a\") = 1; word(2, \"b\") = 1; contains(2, 0) = 1; contains(2, 1) = 1; contains(2, 2) = 1",
            "unite(0, 0, 3) = EMPTY_REGISTER; unite(0, 3, 0) = EMPTY_REGISTER; unite(4, 3, 3) = BAD_ARGUMENT; unite(0, 4, 3) = BAD_ARGUMENT",
            "unite(0, 3, 4) = BAD_ARGUMENT; unite(-1, 0, 0) = BAD_ARGUMENT; unite(0, -1, 0) = BAD_ARGUMENT; unite(0, 0, -1) = BAD_ARGUMENT",
            "unite(0, 0, 2) = 3; form(0) = 3; unite(3, 0, 2) = FULL; form(3) = EMPTY_REGISTER; unite(1, 1, 1) = 2; unite(1, 1, 1) = 4; unite(1, 1, 1) = FULL; form(1) = 3");
        promise(31, "add(\"a%2\") = 0; setBasic(0, 0, 1) = 1; setBasic(1, 0, 1) = 1; clearLanguage(0) = 1; clearLanguage(0) = 0; form(0) = EMPTY_REGISTER; form(1) = 0",
            "clearLanguage(4) = BAD_ARGUMENT; clearLanguage(-1) = BAD_ARGUMENT; clearLanguage(3) = 0");
        promise(32, "form(0) = EMPTY_REGISTER; form(4) = BAD_ARGUMENT; form(-1) = BAD_ARGUMENT; add(\"a%2\") = 0; setBasic(3, 0, 1) = 1; form(3) = 0",
            "complement(2, 3) = 1; form(2) = 1; intersect(1, 2, 3) = 2; form(1) = 2; unite(0, 1, 2) = 3; form(0) = 3; form(MAX) = BAD_ARGUMENT");
        promise(33, "contains(0, 0) = EMPTY_REGISTER; contains(0, 3) = BAD_ARGUMENT; contains(4, 0) = BAD_ARGUMENT; contains(-1, 0) = BAD_ARGUMENT",
            "contains(0, -1) = BAD_ARGUMENT; add(\"ab^2\") = 0; setBasic(1, 0, 2) = 1; contains(1, 0) = 0; word(2, \"aab\") = 3; contains(1, 2) = 1",
            "word(2, \"aabb\") = 4; contains(1, 2) = 1; word(2, \"ab\") = 2; contains(1, 2) = 0");
        // No automaton is needed to look at one word.
        promise(33, "setLetters(3) = 2; add(\"abca%9\") = 0; setBasic(0, 0, 1) = 1; word(0, \"abca\") = 4; contains(0, 0) = 1; contains(0, 1) = 0; languageStates(0) = TOO_LARGE");
    }

    private static void languageAutomata() {
        promise(34, "languageStates(0) = EMPTY_REGISTER; languageStates(4) = BAD_ARGUMENT; languageStates(-1) = BAD_ARGUMENT; add(\"ab%2\") = 0; add(\"a^2\") = 1",
            "setBasic(0, 0, 1) = 1; setBasic(1, 1, 2) = 1; languageStates(0) = 4; languageStates(1) = 3; intersect(2, 0, 1) = 2; languageStates(2) = 7",
            "complement(3, 0) = 1; unite(3, 3, 0) = 2; languageStates(3) = 1; complement(3, 3) = 2; languageStates(3) = 1; add(\"abab%7\") = 2",
            "setBasic(3, 2, 0) = 1; languageStates(3) = TOO_LARGE; setBasic(3, 1, 0) = 1; languageStates(3) = 2");
        // 5 * 5 * 5 * 16 = 2000 states are just allowed.
        promise(34, "setLetters(3) = 2; add(\"a%5\") = 0; add(\"b%5\") = 1; add(\"c%5\") = 2; add(\"abca%2\") = 3; setBasic(0, 0, 0) = 1; setBasic(1, 1, 0) = 1",
            "setBasic(2, 2, 0) = 1; setBasic(3, 3, 0) = 1; intersect(0, 0, 1) = 2; intersect(0, 0, 2) = 3; languageStates(0) = 125; intersect(1, 0, 3) = 4; languageStates(1) = 2000",
            "add(\"#%2\") = 4; setBasic(2, 4, 0) = 1; unite(3, 3, 2) = 2; languageStates(3) = 32; firstDifference(1, 3, 0) = TOO_LARGE; firstDifference(1, 1, 0) = NONE");
        promise(35, "countWords(0, 0) = EMPTY_REGISTER; countWords(0, 21) = BAD_ARGUMENT; countWords(0, -1) = BAD_ARGUMENT; countWords(4, 0) = BAD_ARGUMENT",
            "countWords(-1, 0) = BAD_ARGUMENT; add(\"a^2\") = 0; setBasic(0, 0, 2) = 1; countWords(0, 0) = 0; countWords(0, 1) = 0; countWords(0, 2) = 1",
            "countWords(0, 20) = 1048555; complement(1, 0) = 1; countWords(1, 0) = 1; countWords(1, 20) = 21; countWords(1, 21) = BAD_ARGUMENT");
        promise(35, "setLetters(3) = 2; add(\"a^1\") = 0; setBasic(0, 0, 1) = 1; complement(1, 0) = 1; countWords(1, 20) = 1048576; unite(0, 0, 1) = 2",
            "countWords(0, 20) = 3486784401; add(\"abca%9\") = 1; setBasic(2, 1, 0) = 1; countWords(2, 0) = TOO_LARGE");
        promise(36, "firstWord(0, 0) = EMPTY_REGISTER; firstWord(0, 3) = BAD_ARGUMENT; firstWord(0, -1) = BAD_ARGUMENT; firstWord(4, 0) = BAD_ARGUMENT",
            "firstWord(-1, 0) = BAD_ARGUMENT; add(\"ba%3\") = 0; setBasic(0, 0, 2) = 1; word(1, \"abab\") = 4; firstWord(0, 1) = 3; text(1) = \"baa\"",
            "setBasic(1, 0, 0) = 1; firstWord(1, 1) = 0; text(1) = \"\"; intersect(2, 0, 1) = 2; word(1, \"abb\") = 3; firstWord(2, 1) = NONE; text(1) = \"abb\"",
            "add(\"abab%9\") = 1; setBasic(3, 1, 1) = 1; firstWord(3, 1) = TOO_LARGE; text(1) = \"abb\"");
        // Words of twelve and of thirteen letters.
        promise(36, "setLetters(1) = 2; add(\"a%9\") = 0; add(\"#%2\") = 1; add(\"#%7\") = 2; setBasic(0, 0, 3) = 1; setBasic(1, 2, 5) = 1; intersect(0, 0, 1) = 2",
            "word(0, \"aa\") = 2; firstWord(0, 0) = 12; length(0) = 12; setBasic(0, 0, 4) = 1; setBasic(1, 2, 6) = 1; intersect(0, 0, 1) = 2; word(0, \"aa\") = 2",
            "firstWord(0, 0) = 13; text(0) = \"aa\"; setBasic(0, 0, 8) = 1; setBasic(1, 2, 6) = 1; intersect(0, 0, 1) = 2; firstWord(0, 0) = 62; text(0) = \"aa\"");
        promise(37, "firstDifference(0, 1, 0) = EMPTY_REGISTER; firstDifference(0, 1, 3) = BAD_ARGUMENT; firstDifference(4, 0, 0) = BAD_ARGUMENT",
            "firstDifference(0, 4, 0) = BAD_ARGUMENT; firstDifference(-1, 0, 0) = BAD_ARGUMENT; firstDifference(0, 0, -1) = BAD_ARGUMENT; add(\"ab%2\") = 0; add(\"ab^1\") = 1",
            "setBasic(0, 0, 1) = 1; setBasic(1, 1, 1) = 1; firstDifference(0, 3, 0) = EMPTY_REGISTER; firstDifference(3, 0, 0) = EMPTY_REGISTER",
            "firstDifference(0, 1, 0) = 3; text(0) = \"aab\"; firstDifference(1, 0, 2) = 3; text(2) = \"aab\"; firstDifference(0, 0, 0) = NONE; text(0) = \"aab\"",
            "complement(2, 0) = 1; firstDifference(0, 2, 0) = 0; text(0) = \"\"; complement(2, 2) = 1; firstDifference(0, 2, 2) = NONE; text(2) = \"aab\"");
        // Each language is small enough, but the pairs are too many.
        promise(37, "add(\"ab%7\") = 0; add(\"ba%8\") = 1; setBasic(0, 0, 1) = 1; setBasic(1, 1, 1) = 1; languageStates(0) = 49; languageStates(1) = 64",
            "word(0, \"bb\") = 2; firstDifference(0, 1, 0) = TOO_LARGE; text(0) = \"bb\"");
        // Eight basic languages, all with tests of their own.
        promise(37, "setLetters(1) = 2; add(\"a%2\") = 0; add(\"a%3\") = 1; add(\"aa%2\") = 2; add(\"a^5\") = 3; add(\"a^7\") = 4; add(\"#%4\") = 5",
            "setBasic(0, 0, 0) = 1; setBasic(1, 1, 2) = 1; setBasic(2, 2, 0) = 1; setBasic(3, 3, 5) = 1; intersect(0, 0, 1) = 2; intersect(0, 0, 2) = 3; intersect(0, 0, 3) = 4",
            "removeTest(0) = 5; removeTest(0) = 4; removeTest(0) = 3; add(\"#%9\") = 3; add(\"aa^9\") = 4; setBasic(1, 1, 7) = 1; setBasic(2, 2, 0) = 1; intersect(1, 1, 2) = 2",
            "setBasic(2, 3, 8) = 1; setBasic(3, 4, 9) = 1; intersect(1, 1, 2) = 3; intersect(1, 1, 3) = 4; firstWord(0, 0) = 8; firstWord(1, 0) = 8; firstDifference(0, 1, 0) = 20; length(0) = 8");
    }

    private static void rowCalls() {
        promise(38, "newRow(0, 0, 0) = 1; element(0, 0) = NOTHING; newRow(0, 1, 21) = 1; element(0, 20) = 0; element(0, 21) = NOTHING",
            "setElement(0, 20, 5) = 1; newRow(0, 1, 22) = BAD_ARGUMENT; newRow(0, 2, 1) = BAD_ARGUMENT; newRow(0, -2, 1) = BAD_ARGUMENT",
            "newRow(3, 0, 1) = BAD_ARGUMENT; newRow(-1, 0, 1) = BAD_ARGUMENT; newRow(0, 1, -1) = NEGATIVE_SIZE; newRow(0, 2, -1) = BAD_ARGUMENT",
            "newRow(3, 0, -1) = BAD_ARGUMENT; newRow(0, 0, MIN) = NEGATIVE_SIZE; newRow(0, 0, MAX) = BAD_ARGUMENT; element(0, 20) = 5",
            "newRow(0, 1, 21) = 1; element(0, 20) = 0; newRow(0, -1, 99) = 1; element(0, 0) = NOTHING; setElement(0, 0, 1) = NULL_ROW",
            "newRow(0, -1, -99) = 1; newRow(2, 0, 3) = 1; setElement(2, 2, 4) = 1; newRow(3, -1, 0) = BAD_ARGUMENT; element(2, 2) = 4");
        promise(39, "setElement(0, 0, 1) = NULL_ROW; setElement(3, 0, 1) = BAD_ARGUMENT; setElement(-1, 0, 1) = BAD_ARGUMENT; newRow(0, 0, 3) = 1; newRow(1, 1, 3) = 1",
            "setElement(0, 3, 1) = INDEX_OUT_OF_RANGE; setElement(0, -1, 1) = INDEX_OUT_OF_RANGE; setElement(0, 2, 32768) = 1; element(0, 2) = -32768",
            "setElement(0, 0, -32769) = 1; element(0, 0) = 32767; setElement(0, 1, 65536) = 1; element(0, 1) = 0; setElement(1, 0, MIN) = 1",
            "element(1, 0) = -2147483648; setElement(1, 1, 70000) = 1; element(1, 1) = 70000; setElement(1, MAX, 1) = INDEX_OUT_OF_RANGE; setElement(1, MIN, 1) = INDEX_OUT_OF_RANGE",
            "setElement(2, -1, 1) = NULL_ROW");
        promise(40, "element(0, 0) = NOTHING; element(3, 0) = NOTHING; element(-1, 0) = NOTHING; newRow(1, 1, 2) = 1; setElement(1, 1, -7) = 1; element(1, 1) = -7",
            "element(1, 0) = 0; element(1, 2) = NOTHING; element(1, -1) = NOTHING; element(1, MAX) = NOTHING; element(1, MIN) = NOTHING; newRow(1, -1, 0) = 1; element(1, 1) = NOTHING");
        promise(41, "newRow(0, 1, 5) = 1; setElement(0, 0, 1) = 1; setElement(0, 1, 2) = 1; setElement(0, 2, 3) = 1; newRow(1, 1, 3) = 1; newRow(2, 0, 3) = 1",
            "copyElements(0, 0, 0, 1, 3) = 3; element(0, 0) = 1; element(0, 1) = 1; element(0, 2) = 2; element(0, 3) = 3; element(0, 4) = 0",
            "copyElements(0, 1, 0, 0, 3) = 3; element(0, 0) = 1; element(0, 1) = 2; element(0, 2) = 3; element(0, 3) = 3; copyElements(0, 1, 1, 0, 3) = 3",
            "element(1, 0) = 2; element(1, 1) = 3; element(1, 2) = 3; copyElements(0, 5, 1, 3, 0) = 0; copyElements(0, 6, 1, 3, 0) = INDEX_OUT_OF_RANGE",
            "copyElements(0, 0, 1, 4, 0) = INDEX_OUT_OF_RANGE; copyElements(0, 0, 1, 1, 3) = INDEX_OUT_OF_RANGE; copyElements(0, 3, 1, 0, 3) = INDEX_OUT_OF_RANGE",
            "copyElements(0, -1, 1, 0, 1) = INDEX_OUT_OF_RANGE; copyElements(0, 0, 1, -1, 1) = INDEX_OUT_OF_RANGE; copyElements(0, 0, 1, 0, -1) = INDEX_OUT_OF_RANGE",
            "copyElements(0, MAX, 1, 0, MAX) = INDEX_OUT_OF_RANGE; copyElements(0, 1, 1, 1, MAX) = INDEX_OUT_OF_RANGE; copyElements(0, MIN, 1, 0, MIN) = INDEX_OUT_OF_RANGE",
            "copyElements(0, 0, 2, 0, 1) = TYPE_MISMATCH; copyElements(2, -1, 0, 0, 1) = TYPE_MISMATCH; copyElements(2, 0, 0, 0, 0) = TYPE_MISMATCH",
            "copyElements(3, 0, 0, 0, 0) = BAD_ARGUMENT; copyElements(0, 0, 3, 0, 0) = BAD_ARGUMENT; copyElements(-1, 0, 0, 0, 0) = BAD_ARGUMENT; copyElements(0, 0, -1, 0, 0) = BAD_ARGUMENT",
            "newRow(2, -1, 0) = 1; copyElements(0, -1, 2, 0, 1) = NULL_ROW; copyElements(2, 0, 0, 0, 1) = NULL_ROW; copyElements(2, 0, 3, 0, 1) = BAD_ARGUMENT; element(1, 0) = 2");
        promise(42, "fillCounts(0, 0) = EMPTY_REGISTER; fillCounts(3, 0) = BAD_ARGUMENT; fillCounts(0, 4) = BAD_ARGUMENT; fillCounts(-1, 0) = BAD_ARGUMENT; fillCounts(0, -1) = BAD_ARGUMENT",
            "setLetters(3) = 2; add(\"a^1\") = 0; setBasic(0, 0, 1) = 1; setBasic(1, 0, 0) = 1; unite(2, 0, 1) = 2; fillCounts(0, 2) = NULL_ROW; newRow(0, 1, 21) = 1; newRow(1, 0, 12) = 1; newRow(2, 1, 0) = 1",
            "fillCounts(0, 3) = EMPTY_REGISTER; fillCounts(0, 2) = 21; element(0, 0) = 1; element(0, 10) = 59049; element(0, 19) = 1162261467; element(0, 20) = -808182895",
            "fillCounts(1, 2) = 12; element(1, 9) = 19683; element(1, 10) = -6487; element(1, 11) = -19461; fillCounts(2, 2) = 0; fillCounts(1, 1) = 12; element(1, 11) = 2048",
            "add(\"abca%9\") = 1; setBasic(3, 1, 0) = 1; fillCounts(1, 3) = TOO_LARGE; fillCounts(2, 3) = TOO_LARGE; element(1, 11) = 2048; newRow(2, -1, 0) = 1; fillCounts(2, 3) = NULL_ROW");
    }

    private static void snapshots() {
        promise(43, "saveSnapshot() = 0; add(\"a%2\") = 0; setBasic(0, 0, 1) = 1; setBasic(2, 0, 1) = 1; saveSnapshot() = 2; clearLanguage(0) = 1; saveSnapshot() = 1",
            "setBasic(1, 0, 1) = 1; restoreSnapshot() = 1; form(0) = EMPTY_REGISTER; form(1) = EMPTY_REGISTER; form(2) = 0; testCount() = 1");
        promise(44, "restoreSnapshot() = NONE; setLetters(3) = 2; word(0, \"cab\") = 3; word(2, \"b\") = 1; add(\"ca%3\") = 0; add(\"#%4\") = 1; setBasic(1, 0, 1) = 1",
            "newRow(0, 1, 2) = 1; setElement(0, 0, 5) = 1; feed(97) = 1; saveSnapshot() = 1; append(0, 2) = 4; clearWord(2) = 1; removeTest(0) = 1; complement(1, 1) = 1",
            "complement(2, 1) = 1; setElement(0, 0, 6) = 1; feed(98) = 2; restoreSnapshot() = 1; letters() = 3; text(0) = \"cab\"; text(2) = \"b\"; testCount() = 2",
            "test(0, 1) = 3; test(0, 2) = 2; test(1, 0) = 1; form(1) = 0; form(2) = EMPTY_REGISTER; contains(1, 0) = 1; element(0, 0) = 6; feed(37) = 3; feed(50) = 4; addTest() = 2",
            "reverse(0) = 0; setLetters(1) = 3; letters() = 1; restoreSnapshot() = 1; letters() = 3; text(0) = \"cab\"; testCount() = 2; restoreSnapshot() = 1; text(0) = \"cab\"");
        // A restored object goes its own way from what was saved.
        promise(44, "word(0, \"ab\") = 2; saveSnapshot() = 0; restoreSnapshot() = 0; append(0, 0) = 3; add(\"a%2\") = 0; restoreSnapshot() = 0; text(0) = \"ab\"; testCount() = 0");
    }
}
