import java.util.List;
import java.util.function.Supplier;

/** Promises 8 to 10: every sentence that names a boundary case; the words above a test are the document's. */
public final class HiddenAndFoundEdgesTest {
    private static final int OUTSIDE = Checks.OUTSIDE, STATE = Checks.STATE;
    private static final int SHIFT = 0, WORD = 1, PAIRS = 2, COLUMNS = 3, RAILS = 4, APART = 5;
    private static final List<String> KEYS = List.of("a", "p", "ba", "ab", "cab", "aaa", "fade", "ponml", "aaaaaa",
            "ponmlk", "bababa", "abcdef");

    private static void due(String call, Object got, Object want) {
        Checks.due(call, got, want);
    }

    private static int different(String one, String other) {
        int places = 0;
        for (int i = 0; i < one.length(); i++) {
            places += one.charAt(i) == other.charAt(i) ? 0 : 1;
        }
        return places;
    }

    private static void hides(int way, String key, String text, String want) {
        SecretSquares x = State.with(key, text);
        due("hide(" + way + ") of " + text + " by " + key, x.hide(way), different(text, want));
        due("what is hidden of " + text + " by " + key, State.read(x, 0), want);
        due("the key behind hide", State.read(x, 1), key);
        due("count(3) behind hide", x.count(3), 1);
    }

    private static void finds(int way, String key, String text, String want) {
        SecretSquares x = State.with(key, text);
        due("find(" + way + ") of " + text + " by " + key, x.find(way), different(text, want));
        due("what is found of " + text + " by " + key, State.read(x, 0), want);
        due("the key behind find", State.read(x, 1), key);
        due("count(3) behind find", x.count(3), 1);
    }

    // ---- hide

    /** "OUTSIDE": ways are 0 to 5. */
    static void promise08_waysOutside() {
        for (int way : Checks.beyond(0, 5)) {
            State.refused("hide(" + way + ")", x -> x.hide(way), OUTSIDE);
        }
    }

    /** "STATE: by PAIRS, and their number is odd." */
    static void promise08_pairsOfAnOddNumber() {
        State.stays("hide(2) of an odd text", State::busyOdd, x -> x.hide(PAIRS), STATE);
        State.stays("hide(2) of 47", State::brimmingOdd, x -> x.hide(PAIRS), STATE);
        for (int size = 1; size < 48; size += 2) {
            SecretSquares x = State.with("bed", State.FULL_TEXT.substring(0, size));
            due("hide(2) of " + size, x.hide(PAIRS), STATE);
            due("the text", State.read(x, 0), State.FULL_TEXT.substring(0, size));
        }
    }

    /** "(of an even number of LETTERS only)": none and 48 are even. */
    static void promise08_pairsOfAnEvenNumber() {
        hides(PAIRS, "a", "", "");
        for (int size = 2; size <= 48; size += 2) {
            hides(PAIRS, "a", "a".repeat(size), "f".repeat(size));
        }
    }

    /** All other ways hide an odd number of letters, too. */
    static void promise08_oddNumberByOtherWays() {
        for (int way : new int[] {SHIFT, WORD, COLUMNS, RAILS, APART}) {
            for (int size : new int[] {1, 3, 47}) {
                SecretSquares x = State.with("bed", State.FULL_TEXT.substring(0, size));
                due("hide(" + way + ") of " + size + " is not refused", x.hide(way) >= 0, true);
                due("count(3)", x.count(3), 1);
            }
        }
    }

    /** "Calls that are refused answer the first that fits": OUTSIDE ahead of STATE. */
    static void promise08_outsideAheadOfState() {
        State.stays("hide(6)", State::busyOdd, x -> x.hide(6), OUTSIDE);
        State.stays("hide(-1)", State::busyOdd, x -> x.hide(-1), OUTSIDE);
        State.stays("hide(2 + 256)", State::busyOdd, x -> x.hide(2 + 256), OUTSIDE);
    }

    /** No text is hidden by every way: no letter is another one, and it is a step. */
    static void promise08_noText() {
        for (int way = SHIFT; way <= APART; way++) {
            for (String key : KEYS) {
                hides(way, key, "", "");
            }
            SecretSquares x = new SecretSquares();
            due("hide(" + way + ") of a new object", x.hide(way), 0);
            due("count(3)", x.count(3), 1);
        }
    }

    /** "added, left over by 16": every letter by every first letter of a key. */
    static void promise08_shiftWrapsAround() {
        for (int by = 0; by < 16; by++) {
            hides(SHIFT, State.ALL.substring(by, by + 1), State.ALL, State.ALL.substring(by) + State.ALL.substring(0, by));
        }
        hides(SHIFT, "b", "p", "a");
        hides(SHIFT, "p", "a", "p");
        hides(SHIFT, "p", "p", "o");
    }

    /** "that of THE KEY's first LETTER": the others have no part in it. */
    static void promise08_shiftByTheFirstLetter() {
        hides(SHIFT, "bp", "aaa", "bbb");
        hides(SHIFT, "appppp", "abcdefgh", "abcdefgh");
        hides(SHIFT, "p", "b".repeat(48), "a".repeat(48));
    }

    /** "at PLACE i by the LETTER of THE KEY that comes at i left over by how many it has" */
    static void promise08_wordBeginsAnew() {
        hides(WORD, "abcdef", "a", "a");
        hides(WORD, "abcdef", "aaaaa", "abcde");
        hides(WORD, "abcdef", "aaaaaa", "abcdef");
        hides(WORD, "abcdef", "aaaaaaa", "abcdefa");
        hides(WORD, "abcdef", "a".repeat(48), "abcdef".repeat(8));
        hides(WORD, "bcdef", "a".repeat(48), "bcdef".repeat(9) + "bcd");
        hides(WORD, "ab", "aaa", "aba");
        hides(WORD, "p", "abcp", "pabo");
    }

    /** "likewise": added, left over by 16. */
    static void promise08_wordWrapsAround() {
        hides(WORD, "bp", "papa", "apap");
        hides(WORD, "bp", "pbpb", "aaaa");
        for (int by = 0; by < 16; by++) {
            hides(WORD, "a" + State.ALL.charAt(by), "apbp", "a" + wrapped(15 + by) + "b" + wrapped(15 + by));
        }
    }

    private static String wrapped(int number) {
        return String.valueOf((char) ('a' + number % 16));
    }

    /** "both alike: both become the one a ROW lower and a COLUMN further right (behind the last .. come the first ..)" */
    static void promise08_pairsAlike() {
        String becomes = "fghejklinopmbcda";
        for (int i = 0; i < 16; i++) {
            hides(PAIRS, "a", State.ALL.substring(i, i + 1).repeat(2), becomes.substring(i, i + 1).repeat(2));
        }
        hides(PAIRS, "p", "oo", "pp");
    }

    /** "else both in one ROW: each becomes the next one to the right of it in that ROW (likewise)" */
    static void promise08_pairsInOneRow() {
        hides(PAIRS, "a", "ab", "bc");
        hides(PAIRS, "a", "ad", "ba");
        hides(PAIRS, "a", "da", "ab");
        hides(PAIRS, "a", "cd", "da");
        hides(PAIRS, "a", "ac", "bd");
        hides(PAIRS, "a", "eh", "fe");
        hides(PAIRS, "a", "lk", "il");
        hides(PAIRS, "a", "mp", "nm");
        hides(PAIRS, "a", "pn", "mo");
    }

    /** "else both in one COLUMN: each the next one below it (likewise)" */
    static void promise08_pairsInOneColumn() {
        hides(PAIRS, "a", "ae", "ei");
        hides(PAIRS, "a", "am", "ea");
        hides(PAIRS, "a", "ma", "ae");
        hides(PAIRS, "a", "im", "ma");
        hides(PAIRS, "a", "fn", "jb");
        hides(PAIRS, "a", "og", "ck");
        hides(PAIRS, "a", "dp", "hd");
        hides(PAIRS, "a", "pl", "dp");
    }

    /** "else each becomes that in its own ROW and the COLUMN of the other one" */
    static void promise08_pairsCrosswise() {
        hides(PAIRS, "a", "ap", "dm");
        hides(PAIRS, "a", "pa", "md");
        hides(PAIRS, "a", "dm", "ap");
        hides(PAIRS, "a", "md", "pa");
        hides(PAIRS, "a", "af", "be");
        hides(PAIRS, "a", "kp", "lo");
        hides(PAIRS, "a", "el", "hi");
    }

    /** "of PLACES 0 and 1, 2 and 3, and so on": to the last two of 48, by THE SQUARE of the key. */
    static void promise08_pairsTwoAndTwo() {
        hides(PAIRS, "a", "baab", "cbbc");
        hides(PAIRS, "a", "abba", "bccb");
        hides(PAIRS, "a", "a".repeat(46) + "pp", "f".repeat(46) + "aa");
        hides(PAIRS, "ponmlk", "ppjjpj", "kkppmg");
        hides(PAIRS, "pppppp", "oo", "pp");
    }

    /** "as many columns as THE KEY has LETTERS": of one column, nothing moves. */
    static void promise08_oneColumn() {
        hides(COLUMNS, "a", State.FULL_TEXT, State.FULL_TEXT);
        hides(COLUMNS, "p", "abc", "abc");
    }

    /** "that of the least LETTER of THE KEY first, of like ones that further to the left" */
    static void promise08_likeColumns() {
        hides(COLUMNS, "aa", "abcde", "acebd");
        hides(COLUMNS, "bab", "abcdefg", "beadgcf");
        hides(COLUMNS, "aaaaaa", "abcdefgh", "agbhcdef");
        hides(COLUMNS, "pppppp", "abcdefgh", "agbhcdef");
        hides(COLUMNS, "bababa", "abcdefgh", "bhdfagce");
    }

    /** "that of the least LETTER .. first": a is the least, p the greatest. */
    static void promise08_leastColumnFirst() {
        hides(COLUMNS, "pa", "abcd", "bdac");
        hides(COLUMNS, "ap", "abcd", "acbd");
        hides(COLUMNS, "op", "abcd", "acbd");
        hides(COLUMNS, "ponmlk", "abcdefg", "fedcbag");
    }

    /** "written row by row": the last row may be short, the only one, too; it may be just full. */
    static void promise08_lastRowOfColumns() {
        hides(COLUMNS, "ba", "a", "a");
        hides(COLUMNS, "ba", "ab", "ba");
        hides(COLUMNS, "ba", "abc", "bac");
        hides(COLUMNS, "ponmlk", "a", "a");
        hides(COLUMNS, "ponmlk", "abcde", "edcba");
        hides(COLUMNS, "ponmlk", "abcdef", "fedcba");
        hides(COLUMNS, "cab", "abcdef", "becfad");
        hides(COLUMNS, "fedcb", "a".repeat(44) + "bcde", "a".repeat(8) + "b" + "a".repeat(18) + "e"
                + "a".repeat(9) + "d" + "a".repeat(9) + "c");
    }

    /** "as many rails as THE KEY has LETTERS, and 1": two to seven. */
    static void promise08_twoToSevenRails() {
        String[] hidden = {"acegikmobdfhjlnp", "aeimbdfhjlnpcgko", "agmbfhlnceikodjp", "aibhjpcgkodflnem",
            "akbjlcimdhnegofp", "amblnckodjpeifhg"};
        for (int letters = 1; letters <= 6; letters++) {
            hides(RAILS, "a".repeat(letters), State.ALL, hidden[letters - 1]);
        }
    }

    /** How many letters the key has counts, not which ones. */
    static void promise08_railsByAnyLetters() {
        hides(RAILS, "p", "abcde", "acebd");
        hides(RAILS, "pa", "abcde", "aebdc");
        hides(RAILS, "ap", "abcde", "aebdc");
    }

    /** "written down from the first rail to the last one, up to the first one, and so on": around each turn. */
    static void promise08_turnsOfRails() {
        hides(RAILS, "aaaaaa", "a", "a");
        hides(RAILS, "aaaaaa", "abcdef", "abcdef");
        hides(RAILS, "aaaaaa", "abcdefg", "abcdefg");
        hides(RAILS, "aaaaaa", "abcdefgh", "abcdefhg");
        hides(RAILS, "aaaaaa", "abcdefghijklm", "amblckdjeifhg");
        hides(RAILS, "aaaaaa", "abcdefghijklmn", "amblnckdjeifhg");
        hides(RAILS, "a", "ab", "ab");
        hides(RAILS, "a", "abc", "acb");
        hides(RAILS, "bb", "abc", "abc");
        hides(RAILS, "bb", "abcd", "abdc");
        hides(RAILS, "bb", "abcde", "aebdc");
    }

    /** "ROWS of all its LETTERS .., then those of COLUMNS, stand in one line; two and two": odd, even, one, 48. */
    static void promise08_apart() {
        for (int i = 0; i < 16; i++) {
            hides(APART, "a", State.ALL.substring(i, i + 1), State.ALL.substring(i, i + 1));
        }
        hides(APART, "a", "pa", "mm");
        hides(APART, "a", "ap", "dd");
        hides(APART, "a", "ad", "ad");
        hides(APART, "a", "pad", "mdd");
        hides(APART, "a", "abf", "aef");
        hides(APART, "a", "p" + "a".repeat(47), "m" + "a".repeat(23) + "m" + "a".repeat(23));
        hides(APART, "a", "a".repeat(47) + "p", "a".repeat(23) + "d" + "a".repeat(23) + "d");
        hides(APART, "ponmlk", "jp", "gg");
    }

    /** "how many LETTERS are another one than was at that PLACE": none, some, all. */
    static void promise08_howManyAreAnother() {
        hides(SHIFT, "a", State.FULL_TEXT, State.FULL_TEXT);
        hides(SHIFT, "b", "a".repeat(48), "b".repeat(48));
        hides(COLUMNS, "ba", "aaaa", "aaaa");
        hides(RAILS, "a", "aab", "aba");
        hides(WORD, "ab", "aaaaa", "ababa");
    }

    /** A step that changes no letter is one, too; all but text and steps stays. */
    static void promise08_allElseStays() {
        SecretSquares x = new SecretSquares();
        State.text(x, "abc");
        due("hide(0) by a", x.hide(SHIFT), 0);
        due("count(3)", x.count(3), 1);
        for (int way = SHIFT; way <= APART; way++) {
            int by = way;
            Supplier<SecretSquares> there = State.then(State::busyEven, y -> y.hide(by));
            due("pad behind hide", State.pad(there), State.pad(State::busyEven));
            due("images behind hide", State.images(there), State.images(State::busyEven));
            due("desk behind hide and undo", State.desk(State.then(there, SecretSquares::undo)),
                    State.desk(State::busyEven));
        }
    }

    // ---- find

    /** "OUTSIDE": ways are 0 to 5. */
    static void promise09_waysOutside() {
        for (int way : Checks.beyond(0, 5)) {
            State.refused("find(" + way + ")", x -> x.find(way), OUTSIDE);
        }
    }

    /** "STATE, likewise." */
    static void promise09_pairsOfAnOddNumber() {
        State.stays("find(2) of an odd text", State::busyOdd, x -> x.find(PAIRS), STATE);
        State.stays("find(2) of 47", State::brimmingOdd, x -> x.find(PAIRS), STATE);
        for (int size = 1; size < 48; size += 2) {
            SecretSquares x = State.with("bed", State.FULL_TEXT.substring(0, size));
            due("find(2) of " + size, x.find(PAIRS), STATE);
            due("the text", State.read(x, 0), State.FULL_TEXT.substring(0, size));
        }
    }

    /** "(of an even number of LETTERS only)": none and 48 are even. */
    static void promise09_pairsOfAnEvenNumber() {
        finds(PAIRS, "a", "", "");
        for (int size = 2; size <= 48; size += 2) {
            finds(PAIRS, "a", "f".repeat(size), "a".repeat(size));
        }
    }

    /** All other ways find an odd number of letters, too. */
    static void promise09_oddNumberByOtherWays() {
        for (int way : new int[] {SHIFT, WORD, COLUMNS, RAILS, APART}) {
            for (int size : new int[] {1, 3, 47}) {
                SecretSquares x = State.with("bed", State.FULL_TEXT.substring(0, size));
                due("find(" + way + ") of " + size + " is not refused", x.find(way) >= 0, true);
                due("count(3)", x.count(3), 1);
            }
        }
    }

    /** "Calls that are refused answer the first that fits": OUTSIDE ahead of STATE. */
    static void promise09_outsideAheadOfState() {
        State.stays("find(6)", State::busyOdd, x -> x.find(6), OUTSIDE);
        State.stays("find(-1)", State::busyOdd, x -> x.find(-1), OUTSIDE);
        State.stays("find(2 + 256)", State::busyOdd, x -> x.find(2 + 256), OUTSIDE);
    }

    /** No text is found by every way: no letter is another one, and it is a step. */
    static void promise09_noText() {
        for (int way = SHIFT; way <= APART; way++) {
            for (String key : KEYS) {
                finds(way, key, "", "");
            }
            SecretSquares x = new SecretSquares();
            due("find(" + way + ") of a new object", x.find(way), 0);
            due("count(3)", x.count(3), 1);
        }
    }

    /** Below a comes p again. */
    static void promise09_shiftWrapsAround() {
        for (int by = 0; by < 16; by++) {
            finds(SHIFT, State.ALL.substring(by, by + 1), State.ALL,
                    State.ALL.substring(16 - by) + State.ALL.substring(0, 16 - by));
        }
        finds(SHIFT, "bp", "aaa", "ppp");
        finds(SHIFT, "p", "p", "a");
    }

    /** The key begins anew, and below a comes p again. */
    static void promise09_wordWrapsAround() {
        finds(WORD, "abcdef", "abcdefa", "aaaaaaa");
        finds(WORD, "abcdef", "aaaaaaa", "aponmla");
        finds(WORD, "bp", "aaaa", "pbpb");
        finds(WORD, "bcdef", "bcdef".repeat(9) + "bcd", "a".repeat(48));
    }

    /** What PAIRS hid: ahead of the first row and column come the last ones. */
    static void promise09_pairsWrapAround() {
        String becomes = "fghejklinopmbcda";
        for (int i = 0; i < 16; i++) {
            finds(PAIRS, "a", becomes.substring(i, i + 1).repeat(2), State.ALL.substring(i, i + 1).repeat(2));
        }
        finds(PAIRS, "a", "ab", "da");
        finds(PAIRS, "a", "ba", "ad");
        finds(PAIRS, "a", "nm", "mp");
        finds(PAIRS, "a", "ea", "am");
        finds(PAIRS, "a", "ae", "ma");
        finds(PAIRS, "a", "hd", "dp");
        finds(PAIRS, "a", "dm", "ap");
        finds(PAIRS, "a", "md", "pa");
        finds(PAIRS, "a", "cbbc", "baab");
        finds(PAIRS, "ponmlk", "kkppmg", "ppjjpj");
    }

    /** What COLUMNS hid: with like letters, one column, short rows. */
    static void promise09_columns() {
        finds(COLUMNS, "p", "abc", "abc");
        finds(COLUMNS, "bab", "beadgcf", "abcdefg");
        finds(COLUMNS, "aaaaaa", "agbhcdef", "abcdefgh");
        finds(COLUMNS, "ponmlk", "edcba", "abcde");
        finds(COLUMNS, "ponmlk", "fedcbag", "abcdefg");
        finds(COLUMNS, "ba", "bac", "abc");
    }

    /** What RAILS hid: around each turn. */
    static void promise09_rails() {
        finds(RAILS, "aaaaaa", "abcdefg", "abcdefg");
        finds(RAILS, "aaaaaa", "abcdefhg", "abcdefgh");
        finds(RAILS, "aaaaaa", "amblckdjeifhg", "abcdefghijklm");
        finds(RAILS, "aaaaaa", "amblnckdjeifhg", "abcdefghijklmn");
        finds(RAILS, "p", "acebd", "abcde");
        finds(RAILS, "bb", "aebdc", "abcde");
    }

    /** What APART hid: odd, even, one, 48. */
    static void promise09_apart() {
        finds(APART, "a", "p", "p");
        finds(APART, "a", "mm", "pa");
        finds(APART, "a", "dd", "ap");
        finds(APART, "a", "mdd", "pad");
        finds(APART, "a", "m" + "a".repeat(23) + "m" + "a".repeat(23), "p" + "a".repeat(47));
        finds(APART, "a", "a".repeat(23) + "d" + "a".repeat(23) + "d", "a".repeat(47) + "p");
    }

    /** "FIND it, which undoes that by the same KEY": every way, keys of 1 to 6, texts of none to 48. */
    static void promise09_undoesHide() {
        for (String key : KEYS) {
            for (int size = 0; size <= 48; size++) {
                String text = State.FULL_TEXT.substring(48 - size);
                for (int way = SHIFT; way <= APART; way++) {
                    if (way != PAIRS || size % 2 == 0) {
                        undoesHide(way, key, text);
                    }
                }
            }
        }
    }

    private static void undoesHide(int way, String key, String text) {
        SecretSquares x = State.with(key, text);
        int changed = x.hide(way);
        due("find(" + way + ") behind hide of " + text + " by " + key, x.find(way), changed);
        due("what is found of " + text + " by " + key, State.read(x, 0), text);
        x.find(way);
        x.hide(way);
        due("what is hidden behind find of " + text + " by " + key, State.read(x, 0), text);
    }

    /** "undoes that by the same KEY": by another one it does not. */
    static void promise09_byAnotherKey() {
        SecretSquares x = State.with("b", "abc");
        x.hide(SHIFT);
        State.key(x, "c");
        due("find(0) by c", x.find(SHIFT), 3);
        due("the text", State.read(x, 0), "pab");
    }

    /** All but text and steps stays. */
    static void promise09_allElseStays() {
        for (int way = SHIFT; way <= APART; way++) {
            int by = way;
            Supplier<SecretSquares> there = State.then(State::busyEven, x -> x.find(by));
            due("pad behind find", State.pad(there), State.pad(State::busyEven));
            due("images behind find", State.images(there), State.images(State::busyEven));
            due("desk behind find and undo", State.desk(State.then(there, SecretSquares::undo)),
                    State.desk(State::busyEven));
        }
    }

    // ---- undo

    /** "STATE: there is none." */
    static void promise10_none() {
        State.stays("undo() of a new object", State::blank, SecretSquares::undo, STATE);
        Supplier<SecretSquares> scene = State.then(State::busyEven, x -> State.times(3, x::undo));
        due("count(3)", scene.get().count(3), 0);
        State.stays("undo() of no step", scene, SecretSquares::undo, STATE);
        State.stays("undo() behind ten", State.then(State::brimmingEven, x -> State.times(10, x::undo)),
                SecretSquares::undo, STATE);
    }

    private static SecretSquares shifted(int steps) {
        SecretSquares x = State.with("b", "a");
        State.times(steps, () -> x.hide(SHIFT));
        return x;
    }

    /** "Up to 10 STEPS can be taken back": one to ten, all of them. */
    static void promise10_upTo10() {
        for (int steps = 1; steps <= 10; steps++) {
            SecretSquares x = shifted(steps);
            due("count(3) behind " + steps, x.count(3), steps);
            for (int left = steps - 1; left >= 0; left--) {
                due("undo()", x.undo(), left);
                due("the text", State.read(x, 0), State.ALL.substring(left, left + 1));
                due("count(3)", x.count(3), left);
            }
            due("undo() of none", x.undo(), STATE);
            due("the text stays", State.read(x, 0), "a");
        }
    }

    /** "(for one more the oldest one goes)" */
    static void promise10_theOldestOneGoes() {
        for (int steps = 11; steps <= 15; steps++) {
            SecretSquares x = shifted(steps);
            due("count(3) behind " + steps, x.count(3), 10);
            for (int left = 9; left >= 0; left--) {
                due("undo()", x.undo(), left);
                due("the text", State.read(x, 0), State.ALL.substring(steps - 10 + left, steps - 9 + left));
            }
            due("undo() of none", x.undo(), STATE);
            due("the text stays", State.read(x, 0), State.ALL.substring(steps - 10, steps - 9));
        }
    }

    /** The oldest one goes for a find, too, and takes the length of its text with it. */
    static void promise10_theOldestOneGoesWithItsLength() {
        SecretSquares x = State.with("b", State.FULL_TEXT);
        x.hide(SHIFT);
        for (int size = 1; size <= 10; size++) {
            State.text(x, State.FULL_TEXT.substring(0, size));
            x.find(RAILS);
        }
        due("count(3)", x.count(3), 10);
        State.text(x, "");
        for (int size = 10; size >= 1; size--) {
            due("undo()", x.undo(), size - 1);
            due("the text", State.read(x, 0), State.FULL_TEXT.substring(0, size));
        }
        due("undo() of none", x.undo(), STATE);
    }

    /** The oldest one goes: all letters of full texts move up with their steps. */
    static void promise10_theOldestOneGoesOfFullTexts() {
        for (int back = 1; back <= 10; back++) {
            SecretSquares x = State.with("b", "abcdefghijklmnop".repeat(3));
            State.times(12, () -> x.hide(SHIFT));
            State.times(back, x::undo);
            int shifts = 12 - back;
            due("the text, " + back + " steps back", State.read(x, 0),
                    (State.ALL.substring(shifts) + State.ALL.substring(0, shifts)).repeat(3));
        }
    }

    /** With a step taken back, there is room for one more, and the oldest one stays. */
    static void promise10_roomAgain() {
        SecretSquares x = shifted(10);
        x.undo();
        x.hide(SHIFT);
        due("count(3)", x.count(3), 10);
        State.times(9, x::undo);
        due("the last undo()", x.undo(), 0);
        due("the text", State.read(x, 0), "a");
    }

    /** What is refused is no step, and no oldest one goes for it. */
    static void promise10_refusedIsNoStep() {
        SecretSquares x = State.with("b", "abc");
        State.times(10, () -> x.hide(SHIFT));
        due("hide(2)", x.hide(PAIRS), STATE);
        due("find(2)", x.find(PAIRS), STATE);
        due("hide(6)", x.hide(6), OUTSIDE);
        due("find(-1)", x.find(-1), OUTSIDE);
        State.times(9, x::undo);
        due("the last undo()", x.undo(), 0);
        due("the text", State.read(x, 0), "abc");
    }

    /** "how THE TEXT was ahead of each HIDE, FIND": as it was, of none to 48, whatever was taken since. */
    static void promise10_howTheTextWas() {
        for (int size : new int[] {0, 1, 47, 48}) {
            for (String since : new String[] {"", "p", State.FULL_TEXT}) {
                SecretSquares x = State.with("bed", State.FULL_TEXT.substring(48 - size));
                x.find(WORD);
                State.text(x, since);
                due("undo()", x.undo(), 0);
                due("the text", State.read(x, 0), State.FULL_TEXT.substring(48 - size));
            }
        }
    }

    /** "The last STEP is taken back": the text alone; it is no step itself. */
    static void promise10_onlyTheText() {
        SecretSquares x = State.with("b", "abc");
        x.hide(SHIFT);
        State.key(x, "c");
        x.worth(3, 7);
        x.like(1, 2, 1);
        x.image(1);
        State.put(x, "xyz");
        due("undo()", x.undo(), 0);
        due("all that is told", State.told(x), "abc/c/cabdefghijklmnop/0,0,0,7,0,0,0,0,0,0,0,0,0,0,0,0,0,1");
        due("count(2)", x.count(2), 3);
        due("count(5)", x.count(5), 2);
        due("undo() of the undo", x.undo(), STATE);
    }

    /** "An object is used for at most 512 calls": to the last of them. */
    static void promise10_toTheLastCall() {
        SecretSquares x = new SecretSquares();
        x.say('b');
        x.take(1);
        x.say('a');
        x.take(0);
        State.times(500, () -> x.hide(SHIFT));
        due("the call 505", x.letter(0, 0), 500 % 16);
        for (int left = 9; left >= 4; left--) {
            due("undo()", x.undo(), left);
        }
        due("the call 512", x.letter(0, 0), 494 % 16);
    }

    public static void main(String[] args) {
        Checks.run(HiddenAndFoundEdgesTest.class, 8, 10);
    }
}
