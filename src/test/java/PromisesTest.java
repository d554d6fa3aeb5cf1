import java.util.Arrays;

/** Each promise by answers that were worked out by hand: ordinary calls, edges, wrong calls. */
public final class PromisesTest {
    private static final int OUTSIDE = -2, STATE = -3, FULL = -4, NONE = -6, FAULT = -7;
    private static final int[] EXTREMES = {Integer.MIN_VALUE, Integer.MIN_VALUE + 1, Integer.MAX_VALUE};
    private static final int SHIFT = 0, WORD = 1, PAIRS = 2, COLUMNS = 3, RAILS = 4, APART = 5;
    private static final String FULL_TEXT = "abcdefghijklmnopabcdefghijklmnopabcdefghijklmnop";

    private static int asked = 0;
    private static int wrong = 0;

    private static void due(String call, Object got, Object want) {
        asked++;
        if (!got.equals(want)) {
            wrong++;
            System.out.println(call + " answered " + got + ", due is " + want);
        }
    }

    private static void put(SecretSquares x, String signs) {
        x.wipe();
        for (char sign : signs.toCharArray()) {
            x.say(sign);
        }
    }

    private static void text(SecretSquares x, String letters) {
        put(x, letters);
        due("take(0) of " + letters, x.take(0), letters.length());
    }

    private static void key(SecretSquares x, String letters) {
        put(x, letters);
        due("take(1) of " + letters, x.take(1), letters.length());
    }

    private static SecretSquares with(String key, String text) {
        SecretSquares x = new SecretSquares();
        key(x, key);
        text(x, text);
        return x;
    }

    private static String read(SecretSquares x, int what) {
        StringBuilder letters = new StringBuilder();
        for (int i = 0; i < x.letter(what, -1); i++) {
            letters.append((char) ('a' + x.letter(what, i)));
        }
        return letters.toString();
    }

    private static String seen(SecretSquares x) {
        StringBuilder all = new StringBuilder();
        for (int what = 0; what <= 2; what++) {
            all.append(read(x, what)).append('/');
        }
        for (int what = 0; what <= 25; what++) {
            all.append(x.count(what)).append(',');
        }
        return all.toString();
    }

    private static void newObject() {
        SecretSquares x = new SecretSquares();
        due("new: all", seen(x), "/a/abcdefghijklmnop/0,1,0,0,0,0,-2,-2,-2,-2," + "0,".repeat(16));
        due("new: undo()", x.undo(), STATE);
        due("new: restore(0)", x.restore(0), STATE);
        due("new: restore(1)", x.restore(1), STATE);
        due("new: wipe()", x.wipe(), 0);
        due("new: good()", x.good(), 0);
        x.say('b');
        x.take(0);
        x.like(0, 0, 1);
        x.worth(3, 9);
        x.image(1);
        due("another new: all", seen(new SecretSquares()),
                "/a/abcdefghijklmnop/0,1,0,0,0,0,-2,-2,-2,-2," + "0,".repeat(16));
    }

    private static void say() {
        SecretSquares x = new SecretSquares();
        due("say(32)", x.say(32), OUTSIDE);
        due("say(127)", x.say(127), OUTSIDE);
        for (int sign : EXTREMES) {
            due("say(" + sign + ")", x.say(sign), OUTSIDE);
        }
        due("say(33)", x.say(33), 1);
        due("say(126)", x.say(126), 2);
        for (int i = 3; i <= 48; i++) {
            due("say(97)", x.say(97), i);
        }
        due("say(97) on a full pad", x.say(97), FULL);
        due("say(32) on a full pad", x.say(32), OUTSIDE);
        due("count(2)", x.count(2), 48);
    }

    private static void wipe() {
        SecretSquares x = new SecretSquares();
        put(x, "abq");
        due("wipe()", x.wipe(), 3);
        due("wipe() again", x.wipe(), 0);
        due("say after wipe", x.say('p'), 1);
        due("take(0) after wipe", x.take(0), 1);
        due("the text", read(x, 0), "p");
    }

    private static void take() {
        SecretSquares x = with("pap", "abcp");
        due("the text", read(x, 0), "abcp");
        due("the key", read(x, 1), "pap");
        due("pad is empty", x.count(2), 0);
        due("take(1) of nothing", x.take(1), FAULT);
        due("the key stays", read(x, 1), "pap");
        for (String signs : new String[] {"q", "`", "aA", "!a", "~", "ab1"}) {
            put(x, signs);
            due("take(0) of " + signs, x.take(0), FAULT);
            due("take(1) of " + signs, x.take(1), FAULT);
            due("take(2) of " + signs, x.take(2), OUTSIDE);
            due("pad stays", x.count(2), signs.length());
            due("the text stays", read(x, 0), "abcp");
        }
        put(x, "abcdefg");
        due("take(1) of seven", x.take(1), FAULT);
        due("take(-1)", x.take(-1), OUTSIDE);
        due("take(0) of seven", x.take(0), 7);
        key(x, "ponmlk");
        due("six of the key", read(x, 1), "ponmlk");
        text(x, FULL_TEXT);
        due("a full text", read(x, 0), FULL_TEXT);
        x.wipe();
        due("take(0) of nothing", x.take(0), 0);
        due("no text", read(x, 0), "");
        for (int what : EXTREMES) {
            due("take(" + what + ")", x.take(what), OUTSIDE);
        }
    }

    private static void takeKeepsSteps() {
        SecretSquares x = with("b", "abc");
        x.hide(SHIFT);
        text(x, "ppppp");
        key(x, "cc");
        due("steps stay", x.count(3), 1);
        due("undo()", x.undo(), 0);
        due("the text ahead of the step", read(x, 0), "abc");
        due("the key stays", read(x, 1), "cc");
    }

    private static void worth() {
        SecretSquares x = new SecretSquares();
        due("worth(0, 99)", x.worth(0, 99), 0);
        due("worth(15, 7)", x.worth(15, 7), 0);
        due("worth(0, 1)", x.worth(0, 1), 99);
        due("worth(0, 0)", x.worth(0, 0), 1);
        due("count(25)", x.count(25), 7);
        for (int bad : new int[] {-1, 16, Integer.MIN_VALUE, Integer.MAX_VALUE}) {
            due("worth(" + bad + ", 1)", x.worth(bad, 1), OUTSIDE);
        }
        for (int bad : new int[] {-1, 100, Integer.MIN_VALUE, Integer.MAX_VALUE}) {
            due("worth(15, " + bad + ")", x.worth(15, bad), OUTSIDE);
        }
        due("worth stays", x.worth(15, 7), 7);
    }

    private static void like() {
        SecretSquares x = new SecretSquares();
        due("like(0, 1, 1)", x.like(0, 1, 1), 1);
        due("like(0, 1, 1) again", x.like(0, 1, 1), 1);
        due("like(1, 0, 0) of what is not", x.like(1, 0, 0), 1);
        due("like(15, 15, 1)", x.like(15, 15, 1), 2);
        due("like(0, 1, 0)", x.like(0, 1, 0), 1);
        due("count(4)", x.count(4), 1);
        for (int bad : new int[] {-1, 16, Integer.MIN_VALUE, Integer.MAX_VALUE}) {
            due("like(" + bad + ", 0, 1)", x.like(bad, 0, 1), OUTSIDE);
            due("like(0, " + bad + ", 1)", x.like(0, bad, 1), OUTSIDE);
            due("like(0, 0, " + bad + ")", x.like(0, 0, bad), OUTSIDE);
        }
        due("like(0, 0, 2)", x.like(0, 0, 2), OUTSIDE);
        for (int one = 0; one < 16; one++) {
            for (int other = 0; other < 16; other++) {
                x.like(one, other, 1);
            }
        }
        due("all pairs", x.count(4), 256);
    }

    private static void letter() {
        SecretSquares x = with("fpfa", "bcd");
        due("letter(0, -1)", x.letter(0, -1), 3);
        due("letter(1, -1)", x.letter(1, -1), 4);
        due("letter(2, -1)", x.letter(2, -1), 16);
        due("letter(0, 2)", x.letter(0, 2), 3);
        due("letter(1, 3)", x.letter(1, 3), 0);
        due("the square", read(x, 2), "fpabcdeghijklmno");
        int[] sizes = {3, 4, 16};
        for (int what = 0; what <= 2; what++) {
            for (int bad : new int[] {-2, sizes[what], 48, Integer.MIN_VALUE, Integer.MAX_VALUE}) {
                due("letter(" + what + ", " + bad + ")", x.letter(what, bad), NONE);
            }
        }
        for (int bad : new int[] {-1, 3, Integer.MIN_VALUE, Integer.MAX_VALUE}) {
            due("letter(" + bad + ", 0)", x.letter(bad, 0), OUTSIDE);
            due("letter(" + bad + ", -2)", x.letter(bad, -2), OUTSIDE);
        }
        key(x, "ponmlk");
        due("the square of another key", read(x, 2), "ponmlkabcdefghij");
    }

    private static void hidden(int way, String key, String text, String want) {
        SecretSquares x = with(key, text);
        int changed = 0;
        for (int i = 0; i < text.length(); i++) {
            changed += text.charAt(i) == want.charAt(i) ? 0 : 1;
        }
        String call = "hide(" + way + ") of " + text + " by " + key;
        due(call, x.hide(way), changed);
        due("what is hidden: " + call, read(x, 0), want);
        due("steps: " + call, x.count(3), 1);
        due("find(" + way + ") behind " + call, x.find(way), changed);
        due("what is found: " + call, read(x, 0), text);
        due("steps of both: " + call, x.count(3), 2);
        due("the key stays: " + call, read(x, 1), key);
    }

    private static void hideAndFind() {
        hidden(SHIFT, "cb", "abp", "cdb");
        hidden(SHIFT, "a", "abp", "abp");
        hidden(SHIFT, "p", "a", "p");
        hidden(WORD, "abc", "aaaaaaa", "abcabca");
        hidden(WORD, "pb", "abcpo", "pcban");
        hidden(PAIRS, "a", "aapphhmm", "ffaaiibb");
        hidden(PAIRS, "a", "addadhdp", "baabhlhd");
        hidden(PAIRS, "a", "aggabobn", "ceeccnfb");
        hidden(PAIRS, "pa", "papb", "abac");
        hidden(COLUMNS, "cab", "abcdefgh", "behcfadg");
        hidden(COLUMNS, "aba", "abcde", "adcbe");
        hidden(COLUMNS, "ponmlk", "abc", "cba");
        hidden(COLUMNS, "a", "abcde", "abcde");
        hidden(RAILS, "a", "abcde", "acebd");
        hidden(RAILS, "aaaaaa", "abcdefghijklmnop", "amblnckodjpeifhg");
        hidden(RAILS, "ab", "ab", "ab");
        hidden(APART, "a", "abf", "aef");
        hidden(APART, "a", "pa", "mm");
        hidden(APART, "a", "p", "p");
        for (int way = SHIFT; way <= APART; way++) {
            hidden(way, "bed", "", "");
        }
    }

    private static void refusedWays() {
        SecretSquares x = with("bed", "abc");
        for (int bad : new int[] {-1, 6, Integer.MIN_VALUE, Integer.MAX_VALUE}) {
            due("hide(" + bad + ")", x.hide(bad), OUTSIDE);
            due("find(" + bad + ")", x.find(bad), OUTSIDE);
        }
        due("hide(2) of three", x.hide(PAIRS), STATE);
        due("find(2) of three", x.find(PAIRS), STATE);
        due("no steps", x.count(3), 0);
        due("the text stays", read(x, 0), "abc");
    }

    private static void undo() {
        SecretSquares x = with("b", "a");
        for (int i = 1; i <= 12; i++) {
            x.hide(SHIFT);
            due("steps", x.count(3), Math.min(i, 10));
        }
        due("after twelve", read(x, 0), "m");
        text(x, FULL_TEXT);
        for (int left = 9; left >= 0; left--) {
            due("undo()", x.undo(), left);
            due("taken back", read(x, 0), String.valueOf((char) ('a' + left + 2)));
        }
        due("undo() of none", x.undo(), STATE);
        due("the text stays", read(x, 0), "c");
        text(x, FULL_TEXT);
        x.find(RAILS);
        text(x, "");
        x.find(WORD);
        x.undo();
        due("an empty text again", read(x, 0), "");
        x.undo();
        due("a full text again", read(x, 0), FULL_TEXT);
    }

    private static void times() {
        SecretSquares x = with("a", "abapa");
        due("times(0)", x.times(0), 3);
        due("times(15)", x.times(15), 1);
        due("times(2)", x.times(2), 0);
        for (int bad : new int[] {-1, 16, Integer.MIN_VALUE, Integer.MAX_VALUE}) {
            due("times(" + bad + ")", x.times(bad), OUTSIDE);
        }
    }

    private static void same() {
        SecretSquares x = with("a", "aabca");
        int[] want = {1, 0, 1, 1, 0};
        for (int d = 1; d <= 5; d++) {
            due("same(" + d + ")", x.same(d), want[d - 1]);
        }
        text(x, "a".repeat(48));
        due("same(1)", x.same(1), 47);
        due("same(47)", x.same(47), 1);
        for (int bad : new int[] {0, 48, -1, Integer.MIN_VALUE, Integer.MAX_VALUE}) {
            due("same(" + bad + ")", x.same(bad), OUTSIDE);
        }
        text(x, "");
        due("same(47) of nothing", x.same(47), 0);
    }

    private static void length() {
        SecretSquares x = with("a", "aabca");
        int[] want = {1, 1, 3, 4, 4};
        for (int m = 1; m <= 5; m++) {
            due("length(" + m + ")", x.length(m), want[m - 1]);
        }
        due("length(20)", x.length(20), 4);
        text(x, "aaaa");
        due("length(20) of as great ones", x.length(20), 1);
        text(x, "ab");
        due("length(20) of two", x.length(20), 1);
        text(x, "abcdefghijklmnoppnlj".repeat(2));
        due("length(20) of a period of 20", x.length(20), 20);
        for (String few : new String[] {"", "a"}) {
            text(x, few);
            due("length(1) of " + few, x.length(1), NONE);
            for (int bad : new int[] {0, 21, Integer.MIN_VALUE, Integer.MAX_VALUE}) {
                due("length(" + bad + ") of " + few, x.length(bad), OUTSIDE);
            }
        }
    }

    private static void shift() {
        SecretSquares x = with("a", "abcd");
        x.worth(0, 3);
        x.worth(1, 5);
        int[] shifts = {0, 2, 1, 3, 4, 5, 6, 7, 8, 9, 10, 11, 12, 13, 14, 15};
        int[] scores = {5, 5, 3, 3, 0, 0, 0, 0, 0, 0, 0, 0, 0, 0, 0, 0};
        for (int i = 0; i <= 15; i++) {
            due("shift(2, 1, " + i + ", 0)", x.shift(2, 1, i, 0), shifts[i]);
            due("shift(2, 1, " + i + ", 1)", x.shift(2, 1, i, 1), scores[i]);
        }
        due("shift(1, 0, 0, 1)", x.shift(1, 0, 0, 1), 8);
        due("shift(8, 7, 0, 1)", x.shift(8, 7, 0, 1), 0);
        x.worth(15, 50);
        due("a wrapped shift", x.shift(8, 0, 0, 0), 1);
        due("its score", x.shift(8, 0, 0, 1), 50);
        int[][] bad = {{0, 0, 0, 0}, {9, 0, 0, 0}, {1, 1, 0, 0}, {8, 8, 0, 0}, {1, -1, 0, 0}, {1, 0, -1, 0},
            {1, 0, 16, 0}, {1, 0, 0, -1}, {1, 0, 0, 2}, {Integer.MIN_VALUE, 0, 0, 0}, {Integer.MAX_VALUE, 0, 0, 0},
            {1, Integer.MIN_VALUE, 0, 0}, {1, 0, Integer.MAX_VALUE, 0}, {1, 0, 0, Integer.MAX_VALUE}};
        for (int[] b : bad) {
            due("shift" + Arrays.toString(b), x.shift(b[0], b[1], b[2], b[3]), OUTSIDE);
        }
    }

    private static void good() {
        SecretSquares x = with("a", "aabba");
        x.like(0, 1, 1);
        due("ab", x.good(), 1);
        x.like(0, 0, 1);
        x.like(1, 1, 1);
        due("aa, ab, bb", x.good(), 3);
        x.like(0, 1, 0);
        due("aa, bb", x.good(), 2);
        text(x, "a");
        due("of one", x.good(), 0);
        text(x, "a".repeat(48));
        due("of 48", x.good(), 47);
    }

    private static void order() {
        SecretSquares x = with("cab", "abcdefgh");
        x.hide(COLUMNS);
        for (int i = 0; i < 7; i++) {
            x.like(i, i + 1, 1);
        }
        String before = seen(x);
        int[] want = {7, 1, 1, 2, 0};
        int[] whats = {-1, -2, 0, 1, 2};
        for (int i = 0; i < whats.length; i++) {
            due("order(3, " + whats[i] + ")", x.order(3, whats[i]), want[i]);
        }
        due("order changes nothing", seen(x), before);
        text(x, "");
        for (int n = 2; n <= 6; n++) {
            due("all orders of " + n, x.order(n, -2), new int[] {2, 6, 24, 120, 720}[n - 2]);
            for (int i = 0; i < n; i++) {
                due("the first order of " + n, x.order(n, i), i);
            }
            for (int bad : new int[] {-3, n, Integer.MIN_VALUE, Integer.MAX_VALUE}) {
                due("order(" + n + ", " + bad + ")", x.order(n, bad), OUTSIDE);
            }
        }
        for (int bad : new int[] {1, 7, 0, -1, Integer.MIN_VALUE, Integer.MAX_VALUE}) {
            due("order(" + bad + ", -1)", x.order(bad, -1), OUTSIDE);
        }
    }

    private static void climb() {
        SecretSquares x = with("a", "ff");
        x.like(0, 0, 1);
        // z is 3749 from the seed 49: places 5 and 10; f would be found as k, and nothing is liked then.
        due("climb(49, 0, -1)", x.climb(49, 0, -1), 1);
        due("climb(49, 1, -1)", x.climb(49, 1, -1), 1);
        due("climb(49, 1, -2)", x.climb(49, 1, -2), 0);
        due("climb(49, 1, 5)", x.climb(49, 1, 5), 5);
        x.like(10, 10, 1);
        due("climb(49, 1, -2) to as good a one", x.climb(49, 1, -2), 1);
        due("climb(49, 1, 5) to as good a one", x.climb(49, 1, 5), 10);
        due("climb(49, 1, 10) to as good a one", x.climb(49, 1, 10), 5);
        // z is 18449 from the seed 245: place 1 twice.
        due("climb(245, 1, -2)", x.climb(245, 1, -2), 1);
        due("the square stays", read(x, 2), "abcdefghijklmnop");
        due("the last seed, step and place are taken", x.climb(9999, 60, 15) >= 0, true);
        due("the text stays", read(x, 0), "ff");
        text(x, "fff");
        due("climb of three", x.climb(0, 0, 0), STATE);
        for (int bad : new int[] {-1, 10000, Integer.MIN_VALUE, Integer.MAX_VALUE}) {
            due("climb(" + bad + ", 0, 0)", x.climb(bad, 0, 0), OUTSIDE);
        }
        for (int bad : new int[] {-1, 61, Integer.MIN_VALUE, Integer.MAX_VALUE}) {
            due("climb(0, " + bad + ", 0)", x.climb(0, bad, 0), OUTSIDE);
        }
        for (int bad : new int[] {-3, 16, Integer.MIN_VALUE, Integer.MAX_VALUE}) {
            due("climb(0, 0, " + bad + ")", x.climb(0, 0, bad), OUTSIDE);
        }
    }

    private static void imageAndRestore() {
        SecretSquares x = with("bed", "abcdefgh");
        x.worth(4, 44);
        x.like(1, 2, 1);
        x.hide(RAILS);
        due("ahead of the image", read(x, 0), "agbfhced");
        String first = seen(x).replace("8,3,0,1,1,0", "8,3,0,1,1,3");
        due("image(1)", x.image(1), 1);
        due("count(5)", x.count(5), 2);
        due("restore(0)", x.restore(0), STATE);
        x.undo();
        text(x, "ppppp");
        key(x, "a");
        x.hide(WORD);
        x.hide(WORD);
        x.worth(4, 1);
        x.like(1, 2, 0);
        x.like(7, 7, 1);
        x.like(8, 8, 1);
        due("image(0)", x.image(0), 1);
        due("count(5)", x.count(5), 3);
        due("restore(1)", x.restore(1), 1);
        due("as it was", seen(x), first);
        due("the step is there again", x.undo(), 0);
        due("its text", read(x, 0), "abcdefgh");
        put(x, "!!");
        due("restore(1) again", x.restore(1), 1);
        due("the pad stays", x.wipe(), 2);
        due("the image stayed", seen(x), first);
        text(x, "o");
        x.image(1);
        x.restore(0);
        x.restore(1);
        due("in place of what was kept", read(x, 0), "o");
        for (int bad : new int[] {-1, 2, 32, Integer.MIN_VALUE, Integer.MAX_VALUE}) {
            due("image(" + bad + ")", x.image(bad), OUTSIDE);
            due("restore(" + bad + ")", x.restore(bad), OUTSIDE);
        }
    }

    private static void count() {
        SecretSquares x = with("abc", "abcde");
        put(x, "!?");
        x.hide(SHIFT);
        x.like(3, 3, 1);
        x.worth(0, 11);
        x.worth(15, 22);
        x.image(0);
        int[] want = {5, 3, 2, 1, 1, 1, OUTSIDE, OUTSIDE, OUTSIDE, OUTSIDE, 11};
        for (int what = 0; what < want.length; what++) {
            due("count(" + what + ")", x.count(what), want[what]);
        }
        due("count(25)", x.count(25), 22);
        for (int bad : new int[] {-1, 26, Integer.MIN_VALUE, Integer.MAX_VALUE}) {
            due("count(" + bad + ")", x.count(bad), OUTSIDE);
        }
    }

    public static void main(String[] args) {
        newObject();
        say();
        wipe();
        take();
        takeKeepsSteps();
        worth();
        like();
        letter();
        hideAndFind();
        refusedWays();
        undo();
        times();
        same();
        length();
        shift();
        good();
        order();
        climb();
        imageAndRestore();
        count();
        System.out.println(asked + " answers asked, " + wrong + " not as due");
        if (wrong != 0) {
            System.exit(1);
        }
    }
}
