import java.util.function.Supplier;

/** Promises 11 to 17: every sentence that names a boundary case; the words above a test are the document's. */
public final class WithoutKeyEdgesTest {
    private static final int OUTSIDE = Checks.OUTSIDE, STATE = Checks.STATE, NONE = Checks.NONE;

    private static void due(String call, Object got, Object want) {
        Checks.due(call, got, want);
    }

    private static SecretSquares of(String text) {
        return State.with("a", text);
    }

    /** Each pair is written as its two letters. */
    private static SecretSquares liking(String text, String... pairs) {
        SecretSquares x = of(text);
        for (String pair : pairs) {
            x.like(pair.charAt(0) - 'a', pair.charAt(1) - 'a', 1);
        }
        return x;
    }

    // ---- times

    /** "OUTSIDE": letters are 0 to 15. */
    static void promise11_outside() {
        for (int letter : Checks.beyond(0, 15)) {
            State.refused("times(" + letter + ")", x -> x.times(letter), OUTSIDE);
        }
    }

    /** "How often a LETTER is in THE TEXT": never, once, at both ends, everywhere. */
    static void promise11_noneToAll() {
        for (int letter = 0; letter < 16; letter++) {
            String sign = State.ALL.substring(letter, letter + 1);
            String other = letter == 0 ? "p" : "a";
            due("times of none", of("").times(letter), 0);
            due("times of one", of(sign).times(letter), 1);
            due("times of another", of(other).times(letter), 0);
            due("times at both ends", of(sign + other.repeat(46) + sign).times(letter), 2);
            due("times of all 48", of(sign.repeat(48)).times(letter), 48);
            due("times of each", of(State.ALL).times(letter), 1);
        }
    }

    /** "Whatever is told is told as things are then", and stays so. */
    static void promise11_asThingsAreThen() {
        SecretSquares x = State.with("b", "aab");
        due("times(0)", x.times(0), 2);
        x.hide(0);
        due("times(0) behind hide", x.times(0), 0);
        due("times(1) behind hide", x.times(1), 2);
        State.stays("times(7)", State::busyEven, y -> y.times(7), 1);
    }

    // ---- same

    /** "SAME at d, 1 to 47. OUTSIDE." */
    static void promise12_outside() {
        for (int d : Checks.beyond(1, 47)) {
            State.refused("same(" + d + ")", x -> x.same(d), OUTSIDE);
        }
    }

    /** "SAME at d, 1 to 47": all of them are taken, of no text, too. */
    static void promise12_each() {
        SecretSquares full = of("a".repeat(48));
        SecretSquares none = new SecretSquares();
        for (int d = 1; d <= 47; d++) {
            due("same(" + d + ") of 48", full.same(d), 48 - d);
            due("same(" + d + ") of none", none.same(d), 0);
        }
    }

    /** "PLACES i .. at which the LETTER is that at PLACE i and d, added": there must be such a place. */
    static void promise12_upToTheLastPlace() {
        for (int size = 2; size <= 48; size++) {
            SecretSquares x = of("p" + "a".repeat(size - 2) + "p");
            due("same(size less 1) of " + size, x.same(size - 1), 1);
            if (size > 2) {
                due("same(size less 2) of " + size, x.same(size - 2), 0);
            }
            if (size < 48) {
                due("same(size) of " + size, x.same(size), 0);
                due("same(47) of " + size, x.same(47), 0);
            }
        }
        due("same(1) of one", of("p").same(1), 0);
    }

    /** Places behind a text that has become shorter are not there. */
    static void promise12_shorterBehindLonger() {
        SecretSquares x = of("a".repeat(48));
        State.text(x, "aa");
        due("same(1)", x.same(1), 1);
        due("same(2)", x.same(2), 0);
        State.stays("same(1)", State::busyEven, y -> y.same(1), 0);
    }

    // ---- length

    /** "LENGTH of m, 1 to 20 .. OUTSIDE." It comes ahead of NONE. */
    static void promise13_outside() {
        for (int m : Checks.beyond(1, 20)) {
            State.refused("length(" + m + ")", x -> x.length(m), OUTSIDE);
            State.stays("length(" + m + ") of one letter", () -> of("a"), x -> x.length(m), OUTSIDE);
        }
    }

    /** "NONE: there are fewer than two LETTERS" */
    static void promise13_fewerThanTwo() {
        for (int m = 1; m <= 20; m++) {
            int most = m;
            State.stays("length(" + m + ") of none", State::blank, x -> x.length(most), NONE);
            State.stays("length(" + m + ") of one", () -> of("c"), x -> x.length(most), NONE);
            due("length(" + m + ") of two", of("cc").length(m), 1);
            due("length(" + m + ") of two others", of("cd").length(m), 1);
        }
    }

    /** "the d, 1 to m": m itself is one of them, the next one is not. */
    static void promise13_upToM() {
        for (int d = 2; d <= 20; d++) {
            SecretSquares x = of("a" + "b".repeat(d - 1) + "a");
            due("length(" + d + ")", x.length(d), d);
            due("length(" + d + " less 1)", x.length(d - 1), 1);
            due("length(20)", x.length(20), d);
        }
        due("length(20) where 21 were the best", of("a" + "b".repeat(20) + "a").length(20), 1);
    }

    /** "(only d less than how many LETTERS there are)" */
    static void promise13_lessThanHowMany() {
        due("length(20) of 20", of("a" + "b".repeat(18) + "a").length(20), 19);
        due("length(19) of 20", of("a" + "b".repeat(18) + "a").length(19), 19);
        due("length(18) of 20", of("a" + "b".repeat(18) + "a").length(18), 1);
        due("length(20) of abc", of("abc").length(20), 1);
        due("length(20) of aba", of("aba").length(20), 2);
        due("length(3) of aba", of("aba").length(3), 2);
    }

    /** "of several the least" */
    static void promise13_ofSeveralTheLeast() {
        due("length(20), all alike", of("a".repeat(48)).length(20), 1);
        due("length(20), none alike", of(State.ALL).length(20), 1);
        due("length(20) of two and two", of("ab".repeat(24)).length(20), 2);
        due("length(6) of three and three", of("abcabcabc").length(6), 3);
        due("length(3), 2 by 4 and 1 by 2", of("aabba").length(3), 1);
    }

    /** "SAME by (how many LETTERS less d) is greatest": the share, not how many; 45 by 46 ahead of 44 by 45. */
    static void promise13_byHowMany() {
        due("length(3) of aabca", of("aabca").length(3), 3);
        due("length(2) of aabca", of("aabca").length(2), 1);
        due("length(1)", of("ab" + "a".repeat(46)).length(1), 1);
        due("length(20)", of("ab" + "a".repeat(46)).length(20), 2);
        due("length(20), 46 by 47 ahead of 45 by 46", of("a".repeat(47) + "b").length(20), 1);
        State.stays("length(20)", State::brimmingEven, x -> x.length(20), State.brimmingEven().length(20));
    }

    // ---- shift

    /** "n 1 to 8": the first that is outside on either side. */
    static void promise14_everyNth() {
        for (int n : Checks.beyond(1, 8)) {
            State.refused("shift(" + n + ", 0, 0, 0)", x -> x.shift(n, 0, 0, 0), OUTSIDE);
            State.refused("shift(" + n + ", -1, 0, 1)", x -> x.shift(n, -1, 0, 1), OUTSIDE);
        }
    }

    /** "from PLACE f on, 0 to n less 1" */
    static void promise14_fromPlace() {
        for (int n = 1; n <= 8; n++) {
            int every = n;
            due("shift(" + n + ", 0, 15, 1)", new SecretSquares().shift(n, 0, 15, 1), 0);
            due("shift(" + n + ", n less 1, 15, 1)", new SecretSquares().shift(n, n - 1, 15, 1), 0);
            for (int f : Checks.beyond(0, n - 1)) {
                State.refused("shift(" + n + ", " + f + ", 0, 0)", x -> x.shift(every, f, 0, 0), OUTSIDE);
            }
        }
    }

    /** "ranked i-th, 0 to 15" */
    static void promise14_rank() {
        for (int i : Checks.beyond(0, 15)) {
            State.refused("shift(1, 0, " + i + ", 0)", x -> x.shift(1, 0, i, 0), OUTSIDE);
            State.refused("shift(8, 7, " + i + ", 1)", x -> x.shift(8, 7, i, 1), OUTSIDE);
        }
    }

    /** "its k (what = 0), its SCORE (1)" */
    static void promise14_what() {
        for (int what : Checks.beyond(0, 1)) {
            State.refused("shift(1, 0, 0, " + what + ")", x -> x.shift(1, 0, 0, what), OUTSIDE);
            State.refused("shift(8, 7, 15, " + what + ")", x -> x.shift(8, 7, 15, what), OUTSIDE);
        }
    }

    private static void ranks(SecretSquares x, int n, int f, int[] shifts, int[] scores) {
        for (int i = 0; i < 16; i++) {
            due("shift(" + n + ", " + f + ", " + i + ", 0)", x.shift(n, f, i, 0), shifts[i]);
            due("shift(" + n + ", " + f + ", " + i + ", 1)", x.shift(n, f, i, 1), scores[i]);
        }
    }

    private static int[] row(int from, int by) {
        int[] row = new int[16];
        for (int i = 0; i < 16; i++) {
            row[i] = from + by * i;
        }
        return row;
    }

    /** "of as great ones the lesser k": all sixteen alike, of no text, and of a text that is worth something. */
    static void promise14_ofAsGreatOnesTheLesser() {
        ranks(new SecretSquares(), 1, 0, row(0, 1), row(0, 0));
        SecretSquares x = of("abc");
        for (int letter = 0; letter < 16; letter++) {
            x.worth(letter, 99);
        }
        ranks(x, 1, 0, row(0, 1), row(297, 0));
    }

    /** "the greater SCORE first": from the last k to the first. */
    static void promise14_theGreaterFirst() {
        SecretSquares x = of("p");
        for (int letter = 0; letter < 16; letter++) {
            x.worth(letter, 15 - letter);
        }
        ranks(x, 1, 0, row(15, -1), row(15, -1));
    }

    /** "k less than its own (and 16 more, if that is below 0)" */
    static void promise14_16More() {
        SecretSquares x = of("a");
        for (int letter = 0; letter < 16; letter++) {
            x.worth(letter, letter);
        }
        int[] shifts = row(1, 1);
        shifts[15] = 0;
        ranks(x, 1, 0, shifts, row(15, -1));
    }

    /** "every n-th LETTER from PLACE f on": the last place of 48 is one of these. */
    static void promise14_toTheLastPlace() {
        SecretSquares x = of("aaaaaaap".repeat(6));
        x.worth(15, 99);
        due("shift(8, 7, 0, 0)", x.shift(8, 7, 0, 0), 0);
        due("shift(8, 7, 0, 1)", x.shift(8, 7, 0, 1), 594);
        due("shift(8, 6, 0, 0)", x.shift(8, 6, 0, 0), 1);
        due("shift(8, 6, 0, 1)", x.shift(8, 6, 0, 1), 594);
        due("shift(1, 0, 0, 0)", x.shift(1, 0, 0, 0), 1);
        due("shift(1, 0, 0, 1)", x.shift(1, 0, 0, 1), 42 * 99);
        due("shift(1, 0, 1, 1)", x.shift(1, 0, 1, 1), 594);
        State.text(x, "p".repeat(48));
        due("the greatest score", x.shift(1, 0, 0, 1), 4752);
    }

    /** A place f behind the text: no letter is one of these; at its last place: one is. */
    static void promise14_fromBehindTheText() {
        SecretSquares x = of("ppp");
        x.worth(15, 7);
        ranks(x, 4, 3, row(0, 1), row(0, 0));
        ranks(x, 8, 7, row(0, 1), row(0, 0));
        due("shift(4, 2, 0, 1)", x.shift(4, 2, 0, 1), 7);
        due("shift(2, 0, 0, 1)", x.shift(2, 0, 0, 1), 14);
        due("shift(2, 1, 0, 1)", x.shift(2, 1, 0, 1), 7);
    }

    /** "Whatever is told is told as things are then", and stays so. */
    static void promise14_asThingsAreThen() {
        SecretSquares x = of("ab");
        due("shift(1, 0, 0, 1)", x.shift(1, 0, 0, 1), 0);
        x.worth(1, 5);
        due("shift(1, 0, 0, 1) behind worth", x.shift(1, 0, 0, 1), 5);
        x.worth(1, 0);
        due("shift(1, 0, 0, 1) of nothing", x.shift(1, 0, 0, 1), 0);
        State.stays("shift(1, 0, 15, 0)", State::blank, y -> y.shift(1, 0, 15, 0), 15);
        State.stays("shift(8, 7, 0, 1)", State::busyEven, y -> y.shift(8, 7, 0, 1), 99);
    }

    // ---- good

    /** "how many pairs of LETTERS at PLACES one behind the other are LIKED": of fewer than two letters none. */
    static void promise15_noneToAll() {
        SecretSquares x = liking("", "aa");
        due("good() of none", x.good(), 0);
        State.text(x, "a");
        due("good() of one", x.good(), 0);
        State.text(x, "aa");
        due("good() of two", x.good(), 1);
        State.text(x, "a".repeat(48));
        due("good() of 48", x.good(), 47);
        x.like(0, 0, 0);
        due("good() of what is not liked", x.good(), 0);
    }

    /** "one behind the other": the first two and the last two, in this order, with none between them. */
    static void promise15_oneBehindTheOther() {
        due("the first two", liking("ab" + "c".repeat(46), "ab").good(), 1);
        due("the last two", liking("c".repeat(46) + "ab", "ab").good(), 1);
        due("the other way about", liking("ab", "ba").good(), 0);
        due("one between them", liking("acb", "ab").good(), 0);
        due("around the end", liking("bca", "ab").good(), 0);
        due("letters 0 and 15", liking("apappa", "ap").good(), 2);
        due("letters 15 and 15", liking("ppp", "pp").good(), 2);
    }

    /** A text that has become shorter. */
    static void promise15_shorterBehindLonger() {
        SecretSquares x = liking("a".repeat(48), "aa");
        State.text(x, "aa");
        due("good()", x.good(), 1);
        State.stays("good()", State::busyEven, SecretSquares::good, 2);
        State.stays("good() of none", State::blank, SecretSquares::good, 0);
    }

    // ---- order

    /** "BEST of n, 2 to 6" "OUTSIDE: n" */
    static void promise16_columnsOutside() {
        for (int n : Checks.beyond(2, 6)) {
            for (int what : new int[] {-2, -1, 0, 1}) {
                due("order(" + n + ", " + what + ")", new SecretSquares().order(n, what), OUTSIDE);
            }
            State.refused("order(" + n + ", -1)", x -> x.order(n, -1), OUTSIDE);
        }
    }

    /** "(what = -1), how many ORDERS have as much (-2), the column that is read i-th (what = i, 0 to n less 1)" */
    static void promise16_whatOutside() {
        for (int n = 2; n <= 6; n++) {
            int columns = n;
            for (int what : Checks.beyond(-2, n - 1)) {
                State.refused("order(" + n + ", " + what + ")", x -> x.order(columns, what), OUTSIDE);
            }
        }
    }

    private static void best(String call, SecretSquares x, int good, int asMuch, int... columns) {
        int n = columns.length;
        due("GOOD of BEST, " + call, x.order(n, -1), good);
        due("how many orders, " + call, x.order(n, -2), asMuch);
        for (int i = 0; i < n; i++) {
            due("column " + i + " of BEST, " + call, x.order(n, i), columns[i]);
        }
    }

    /** Of texts of none and one every order finds the same: all n! are as good, and the first is BEST. */
    static void promise16_noTextAndOne() {
        for (String text : new String[] {"", "a"}) {
            best("of two", liking(text, "aa"), 0, 2, 0, 1);
            best("of three", liking(text, "aa"), 0, 6, 0, 1, 2);
            best("of four", liking(text, "aa"), 0, 24, 0, 1, 2, 3);
            best("of five", liking(text, "aa"), 0, 120, 0, 1, 2, 3, 4);
            best("of six", liking(text, "aa"), 0, 720, 0, 1, 2, 3, 4, 5);
        }
    }

    /** The last order of all is tried, too. */
    static void promise16_theLastOrder() {
        best("ba", liking("ab", "ba"), 1, 1, 1, 0);
        best("cba", liking("abc", "cb", "ba"), 2, 1, 2, 1, 0);
        best("fedcba", liking("abcdef", "fe", "ed", "dc", "cb", "ba"), 5, 1, 5, 4, 3, 2, 1, 0);
    }

    /** "of several the first: with the lesser number where they differ first" */
    static void promise16_ofSeveralTheFirst() {
        best("ab and ba", liking("ab", "ab", "ba"), 1, 2, 0, 1);
        best("abc and cab", liking("abc", "ab"), 1, 2, 0, 1, 2);
        best("cab and bca", liking("abc", "ca"), 1, 2, 1, 2, 0);
        best("acb and bac", liking("abc", "ac"), 1, 2, 0, 2, 1);
        best("all 48 alike", liking("a".repeat(48), "aa"), 47, 720, 0, 1, 2, 3, 4, 5);
    }

    /** Columns further to the left are longer by one where the last row is short. */
    static void promise16_shortLastRow() {
        best("acb", liking("abc", "cb"), 1, 1, 0, 1);
        best("bac", liking("abc", "ba"), 1, 1, 1, 0);
        best("cadbe and others", liking("abcde", "ca", "ad", "db", "be"), 4, 1, 1, 0);
    }

    /** Fewer letters than columns: those that are empty are read, too. */
    static void promise16_emptyColumns() {
        best("ba of six", liking("ab", "ba"), 1, 360, 1, 0, 2, 3, 4, 5);
        best("ab of six", liking("ab", "ab"), 1, 360, 0, 1, 2, 3, 4, 5);
    }

    /** "FOUND by an ORDER: THE TEXT as if it had been HIDDEN so, undone": the order that the key told. */
    static void promise16_undoesColumns() {
        SecretSquares x = State.with("cab", "abcdefgh");
        x.hide(3);
        for (int i = 0; i < 7; i++) {
            x.like(i, i + 1, 1);
        }
        best("behcfadg", x, 7, 1, 1, 2, 0);
    }

    /** It is only told. */
    static void promise16_changesNothing() {
        State.stays("order(6, -2) of none", State::blank, x -> x.order(6, -2), 720);
        State.stays("order(2, 0)", State::busyEven, x -> x.order(2, 0), 0);
        State.stays("order(6, -1)", State::brimmingEven, x -> x.order(6, -1), State.brimmingEven().order(6, -1));
    }

    // ---- climb

    /** "from a seed, 0 to 9999" */
    static void promise17_seedOutside() {
        for (int seed : Checks.beyond(0, 9999)) {
            State.refused("climb(" + seed + ", 0, -1)", x -> x.climb(seed, 0, -1), OUTSIDE);
        }
        due("climb(0, 0, -2)", new SecretSquares().climb(0, 0, -2), 0);
        due("climb(9999, 0, -2)", new SecretSquares().climb(9999, 0, -2), 0);
    }

    /** "by n steps, 0 to 60" */
    static void promise17_stepsOutside() {
        for (int n : Checks.beyond(0, 60)) {
            State.refused("climb(0, " + n + ", -1)", x -> x.climb(0, n, -1), OUTSIDE);
        }
        for (int n = 0; n <= 60; n++) {
            due("climb(0, " + n + ", -2)", new SecretSquares().climb(0, n, -2), n);
        }
    }

    /** "(what = -1), after how many steps .. (-2), the LETTER at place what of the square then (0 to 15)" */
    static void promise17_whatOutside() {
        for (int what : Checks.beyond(-2, 15)) {
            State.refused("climb(0, 0, " + what + ")", x -> x.climb(0, 0, what), OUTSIDE);
            State.refused("climb(9999, 60, " + what + ")", x -> x.climb(9999, 60, what), OUTSIDE);
        }
    }

    /** "STATE: THE TEXT has an odd number of LETTERS." */
    static void promise17_oddText() {
        for (int what = -2; what <= 15; what++) {
            int told = what;
            State.stays("climb(0, 0, " + what + ")", State::busyOdd, x -> x.climb(0, 0, told), STATE);
            State.stays("climb(9999, 60, " + what + ")", State::brimmingOdd, x -> x.climb(9999, 60, told), STATE);
        }
        for (int size = 0; size <= 48; size++) {
            int answer = of(State.FULL_TEXT.substring(0, size)).climb(5, 5, -1);
            due("climb(5, 5, -1) of " + size, answer, size % 2 == 0 ? 0 : STATE);
        }
    }

    private static String climbed(SecretSquares x, int seed, int n) {
        StringBuilder square = new StringBuilder();
        for (int what = 0; what < 16; what++) {
            square.append((char) ('a' + x.climb(seed, n, what)));
        }
        return square.toString();
    }

    /** No step: the square is that of the key, and GOOD of what is found by it. */
    static void promise17_noStep() {
        for (String key : new String[] {"a", "p", "ponmlk", "bbabba"}) {
            SecretSquares x = State.with(key, "ff");
            due("the square of " + key, climbed(x, 9999, 0), State.read(x, 2));
            due("climb(9999, 0, -2)", x.climb(9999, 0, -2), 0);
        }
        due("climb(1, 0, -1), aa is found", liking("ff", "aa").climb(1, 0, -1), 1);
        due("climb(1, 0, -1), ff is not", liking("ff", "ff").climb(1, 0, -1), 0);
    }

    private static String exchanged(int one, int other) {
        StringBuilder square = new StringBuilder(State.ALL);
        square.setCharAt(one, State.ALL.charAt(other));
        square.setCharAt(other, State.ALL.charAt(one));
        return square.toString();
    }

    /**
     * "75 times itself, and 74, added, left over by 65537": 0 makes 74, 872 makes 65474, 873 makes 65549, left over 12,
     * 9999 makes 749999, left over 29092, 6116 makes 458774, left over 15; "that which z leaves over by 16, that which
     * z by 16, cut, leaves over by 16".
     */
    static void promise17_leftOver() {
        SecretSquares x = new SecretSquares();
        due("from 0", climbed(x, 0, 1), exchanged(10, 4));
        due("from 872", climbed(x, 872, 1), exchanged(2, 12));
        due("from 873", climbed(x, 873, 1), exchanged(12, 0));
        due("from 9999", climbed(x, 9999, 1), exchanged(4, 10));
        due("from 6116", climbed(x, 6116, 1), exchanged(15, 0));
    }

    /** Of no text nothing is ever less: each step stays, to the sixtieth. */
    static void promise17_noText() {
        for (int seed : new int[] {0, 1, 245, 9998, 9999}) {
            StringBuilder square = new StringBuilder(State.ALL);
            long z = seed;
            for (int step = 0; step < 60; step++) {
                z = (75 * z + 74) % 65537;
                int one = (int) (z % 16);
                int other = (int) (z / 16 % 16);
                char kept = square.charAt(one);
                square.setCharAt(one, square.charAt(other));
                square.setCharAt(other, kept);
            }
            SecretSquares x = liking("", "aa");
            due("climb(" + seed + ", 60, -1)", x.climb(seed, 60, -1), 0);
            due("climb(" + seed + ", 60, -2)", x.climb(seed, 60, -2), 60);
            due("the square from " + seed, climbed(x, seed, 60), square.toString());
        }
    }

    /** "if GOOD .. is less than it was, they change back": from 49 places 5 and 10, then 13 and 9. */
    static void promise17_lessChangesBack() {
        SecretSquares x = liking("ff", "aa");
        due("climb(49, 1, -1)", x.climb(49, 1, -1), 1);
        due("climb(49, 1, -2)", x.climb(49, 1, -2), 0);
        due("the square", climbed(x, 49, 1), State.ALL);
        due("climb(49, 2, -1)", x.climb(49, 2, -1), 1);
        due("climb(49, 2, -2)", x.climb(49, 2, -2), 1);
        due("the square, a step further", climbed(x, 49, 2), exchanged(13, 9));
    }

    /** "less": as great does not change back, greater neither. */
    static void promise17_asGreatStays() {
        SecretSquares x = liking("ff", "aa", "kk");
        due("climb(49, 1, -1)", x.climb(49, 1, -1), 1);
        due("climb(49, 1, -2)", x.climb(49, 1, -2), 1);
        due("the square", climbed(x, 49, 1), exchanged(5, 10));
        x.like(0, 0, 0);
        due("climb(49, 1, -1) to a greater", x.climb(49, 1, -1), 1);
        due("the square to a greater", climbed(x, 49, 1), exchanged(5, 10));
    }

    /** "less than it was": ahead of the step, not at first; from 34 places 0 and 4, then 7 and 0. */
    static void promise17_lessThanItWas() {
        SecretSquares x = liking("ff", "ee");
        due("climb(34, 0, -1)", x.climb(34, 0, -1), 0);
        due("climb(34, 1, -1)", x.climb(34, 1, -1), 1);
        due("climb(34, 2, -1)", x.climb(34, 2, -1), 1);
        due("climb(34, 2, -2)", x.climb(34, 2, -2), 1);
        due("the square", climbed(x, 34, 2), exchanged(0, 4));
    }

    /** Both places may be one: nothing moves then, and nothing changes back; from 245 it is place 1. */
    static void promise17_onePlaceTwice() {
        SecretSquares x = liking("ff", "aa");
        due("climb(245, 1, -2)", x.climb(245, 1, -2), 1);
        due("the square", climbed(x, 245, 1), State.ALL);
    }

    /** "THE TEXT that is FOUND by PAIRS with it": behind a last row and column come the first, all 48 are found. */
    static void promise17_foundByPairs() {
        due("aa is found as pp", liking("aa", "pp").climb(0, 0, -1), 1);
        due("ab is found as da", liking("ab", "da").climb(0, 0, -1), 1);
        due("ae is found as ma", liking("ae", "ma").climb(0, 0, -1), 1);
        due("dm is found as ap", liking("dm", "ap").climb(0, 0, -1), 1);
        due("48 of a are found as p", liking("a".repeat(48), "pp").climb(0, 0, -1), 47);
    }

    /** "from THE SQUARE (it itself stays)" */
    static void promise17_itselfStays() {
        Supplier<SecretSquares> scene = State::busyEven;
        State.stays("climb(9999, 60, -1)", scene, x -> x.climb(9999, 60, -1), scene.get().climb(9999, 60, -1));
        State.stays("climb(0, 60, -2) of none", State::blank, x -> x.climb(0, 60, -2), 60);
        SecretSquares x = State.with("a", "ffab");
        String first = climbed(x, 7, 30);
        due("the same climb again", climbed(x, 7, 30), first);
        due("a pair hidden behind it", x.hide(2), 4);
        due("by THE SQUARE", State.read(x, 0), "kkbc");
    }

    /** "Whatever is told is told as things are then": from the square of the key that is there. */
    static void promise17_asThingsAreThen() {
        SecretSquares x = new SecretSquares();
        due("climb(0, 0, 0) by a", x.climb(0, 0, 0), 0);
        State.key(x, "p");
        due("climb(0, 0, 0) by p", x.climb(0, 0, 0), 15);
        due("climb(0, 1, 4) by p", x.climb(0, 1, 4), 9);
        due("climb(0, 1, 10) by p", x.climb(0, 1, 10), 3);
    }

    public static void main(String[] args) {
        Checks.run(WithoutKeyEdgesTest.class, 11, 17);
    }
}
