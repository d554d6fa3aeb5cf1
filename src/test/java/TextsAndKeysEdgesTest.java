import java.lang.reflect.Modifier;
import java.util.List;
import java.util.function.Supplier;

/** Promises 1 to 7: every sentence that names a boundary case; the words above a test are the document's. */
public final class TextsAndKeysEdgesTest {
    private static final int OUTSIDE = Checks.OUTSIDE, FULL = Checks.FULL, NONE = Checks.NONE, FAULT = Checks.FAULT;

    private static void due(String call, Object got, Object want) {
        Checks.due(call, got, want);
    }

    /** "No TEXT" */
    static void promise01_noText() {
        SecretSquares x = new SecretSquares();
        due("count(0)", x.count(0), 0);
        due("letter(0, -1)", x.letter(0, -1), 0);
        due("letter(0, 0)", x.letter(0, 0), NONE);
        for (int letter = 0; letter < 16; letter++) {
            due("times(" + letter + ")", x.times(letter), 0);
        }
    }

    /** "THE KEY a" */
    static void promise01_theKeyIsA() {
        SecretSquares x = new SecretSquares();
        due("count(1)", x.count(1), 1);
        due("letter(1, -1)", x.letter(1, -1), 1);
        due("letter(1, 0)", x.letter(1, 0), 0);
        due("letter(1, 1)", x.letter(1, 1), NONE);
        due("the square", State.read(x, 2), State.ALL);
    }

    /** "nothing is worth anything" */
    static void promise01_nothingIsWorthAnything() {
        SecretSquares x = new SecretSquares();
        for (int letter = 0; letter < 16; letter++) {
            due("count of worth " + letter, x.count(10 + letter), 0);
        }
        State.text(x, State.ALL);
        for (int i = 0; i < 16; i++) {
            due("shift(1, 0, " + i + ", 1)", x.shift(1, 0, i, 1), 0);
        }
        for (int letter = 0; letter < 16; letter++) {
            due("worth(" + letter + ", 99)", x.worth(letter, 99), 0);
        }
    }

    /** "no PAIR LIKED" */
    static void promise01_noPairIsLiked() {
        SecretSquares x = new SecretSquares();
        due("count(4)", x.count(4), 0);
        for (int pair = 0; pair < 256; pair++) {
            due("like of pair " + pair, x.like(pair / 16, pair % 16, 1), pair + 1);
        }
    }

    /** "THE PAD is empty" */
    static void promise01_thePadIsEmpty() {
        due("count(2)", new SecretSquares().count(2), 0);
        due("wipe()", new SecretSquares().wipe(), 0);
        due("say(97)", new SecretSquares().say(97), 1);
        due("take(0)", new SecretSquares().take(0), 0);
    }

    /** "no IMAGE is kept" */
    static void promise01_noImageIsKept() {
        SecretSquares x = new SecretSquares();
        due("count(5)", x.count(5), 0);
        due("restore(0)", x.restore(0), Checks.STATE);
        due("restore(1)", x.restore(1), Checks.STATE);
    }

    /** Nothing was hidden or found yet, so no step can be taken back. */
    static void promise01_noStep() {
        SecretSquares x = new SecretSquares();
        due("count(3)", x.count(3), 0);
        due("undo()", x.undo(), Checks.STATE);
    }

    /** A new object is new whatever was done with others. */
    static void promise01_newBesideOthers() {
        String fresh = State.all(State::blank);
        SecretSquares other = State.brimmingEven();
        due("a new one", State.all(State::blank), fresh);
        due("the other one", other.count(0), 48);
    }

    /** "The constants: OUTSIDE = -2, STATE = -3, FULL = -4, NONE = -6, FAULT = -7" */
    static void promise01_constants() throws ReflectiveOperationException {
        String[] names = {"OUTSIDE", "STATE", "FULL", "NONE", "FAULT"};
        int[] values = {-2, -3, -4, -6, -7};
        for (int i = 0; i < names.length; i++) {
            due(names[i], SecretSquares.class.getField(names[i]).getInt(null), values[i]);
            due(names[i] + " is final", Modifier.isFinal(SecretSquares.class.getField(names[i]).getModifiers()), true);
        }
    }

    /** "OUTSIDE: it is not 33 to 126": what is. */
    static void promise02_signs33To126AreTaken() {
        SecretSquares x = new SecretSquares();
        for (int sign = 33; sign <= 126; sign++) {
            due("say(" + sign + ")", x.say(sign), (sign - 33) % 48 + 1);
            if (x.count(2) == 48) {
                x.wipe();
            }
        }
    }

    /** "OUTSIDE: it is not 33 to 126" */
    static void promise02_signsOutsideAreRefused() {
        for (int sign : Checks.beyond(33, 126)) {
            State.refused("say(" + sign + ")", x -> x.say(sign), OUTSIDE);
        }
        due("say(0)", new SecretSquares().say(0), OUTSIDE);
        due("say(97 - 256)", new SecretSquares().say(97 - 256), OUTSIDE);
        due("say(97 + 256)", new SecretSquares().say(97 + 256), OUTSIDE);
        due("say(97 + 65536)", new SecretSquares().say(97 + 65536), OUTSIDE);
    }

    /** "A sign more on THE PAD: how many." */
    static void promise02_aSignMore() {
        SecretSquares x = new SecretSquares();
        for (int i = 0; i < 48; i++) {
            due("say, the sign " + (i + 1), x.say(State.FULL_TEXT.charAt(i)), i + 1);
        }
        due("take(0)", x.take(0), 48);
        due("the signs, in their order", State.read(x, 0), State.FULL_TEXT);
    }

    /** "FULL: there are 48." */
    static void promise02_fullAt48() {
        Supplier<SecretSquares> full = State.then(State::busyOdd, x -> State.put(x, State.FULL_TEXT));
        Supplier<SecretSquares> almost = State.then(State::busyOdd, x -> State.put(x, State.FULL_TEXT.substring(1)));
        due("the 48th sign", almost.get().say('p'), 48);
        State.stays("say(33) on a full pad", full, x -> x.say(33), FULL);
        State.stays("say(112) on a full pad", full, x -> x.say(112), FULL);
        State.stays("say(126) on a full pad", full, x -> x.say(126), FULL);
    }

    /** "Calls that are refused answer the first that fits": OUTSIDE ahead of FULL. */
    static void promise02_outsideAheadOfFull() {
        State.stays("say(32) on a full pad", State::brimmingEven, x -> x.say(32), OUTSIDE);
        State.stays("say(127) on a full pad", State::brimmingEven, x -> x.say(127), OUTSIDE);
    }

    /** A pad that was full is not, once it is wiped or taken. */
    static void promise02_notFullAnyMore() {
        SecretSquares x = State.brimmingEven();
        due("wipe()", x.wipe(), 48);
        due("say behind wipe", x.say(97), 1);
        State.put(x, State.FULL_TEXT);
        due("take(0)", x.take(0), 48);
        due("say behind take", x.say(97), 1);
    }

    /** "THE PAD is empty: how many signs it had." */
    static void promise03_wipe() {
        for (int signs : new int[] {0, 1, 2, 47, 48}) {
            SecretSquares x = new SecretSquares();
            State.put(x, State.FULL_TEXT.substring(0, signs));
            due("wipe() of " + signs, x.wipe(), signs);
            due("count(2) behind wipe", x.count(2), 0);
            due("wipe() of an empty pad", x.wipe(), 0);
            due("take(0) behind wipe", x.take(0), 0);
        }
    }

    /** Signs that were wiped are gone, those that are no letters, too. */
    static void promise03_wipedSignsAreGone() {
        SecretSquares x = new SecretSquares();
        State.put(x, "abq");
        x.wipe();
        x.say('p');
        due("take(0)", x.take(0), 1);
        due("the text", State.read(x, 0), "p");
    }

    /** All but the pad stays. */
    static void promise03_wipeLeavesTheRest() {
        Supplier<SecretSquares> wiped = State.then(State::busyEven, SecretSquares::wipe);
        due("desk", State.desk(wiped), State.desk(State::busyEven));
        due("images", State.images(wiped), State.images(State::busyEven));
    }

    /** "THE TEXT (what = 0), THE KEY (1)"; "OUTSIDE" */
    static void promise04_whatOutside() {
        for (int what : Checks.beyond(0, 1)) {
            State.refused("take(" + what + ")", x -> x.take(what), OUTSIDE);
        }
    }

    /** "THE TEXT: up to 48 LETTERS (none at first)" */
    static void promise04_textOfNoneTo48() {
        for (int size = 0; size <= 48; size++) {
            String letters = State.FULL_TEXT.substring(0, size);
            SecretSquares x = State.with("bed", "ponm");
            State.put(x, letters);
            due("take(0) of " + size, x.take(0), size);
            due("the text", State.read(x, 0), letters);
            due("count(0)", x.count(0), size);
            due("the key", State.read(x, 1), "bed");
        }
    }

    /** "THE KEY: 1 to 6 LETTERS" */
    static void promise04_keyOf1To6() {
        for (int size = 1; size <= 6; size++) {
            String letters = "ponabc".substring(0, size);
            SecretSquares x = State.with("bedfgh", "ponm");
            State.put(x, letters);
            due("take(1) of " + size, x.take(1), size);
            due("the key", State.read(x, 1), letters);
            due("count(1)", x.count(1), size);
            due("the text", State.read(x, 0), "ponm");
        }
    }

    /** "FAULT: .. of THE KEY also none" */
    static void promise04_keyOfNone() {
        for (Supplier<SecretSquares> scene : scenes()) {
            State.stays("take(1) of none", State.then(scene, SecretSquares::wipe), x -> x.take(1), FAULT);
        }
    }

    /** "FAULT: .. or more than 6" */
    static void promise04_keyOfMoreThan6() {
        for (int size : new int[] {7, 8, 47, 48}) {
            String letters = State.FULL_TEXT.substring(0, size);
            for (Supplier<SecretSquares> scene : scenes()) {
                State.stays("take(1) of " + size, State.then(scene, x -> State.put(x, letters)), x -> x.take(1), FAULT);
            }
        }
    }

    /** "LETTERS are a to p": both ends, at the first and the last place. */
    static void promise04_lettersAToP() {
        for (String letters : new String[] {"a", "p", "ap", "pa", "pppppp", "aaaaaa"}) {
            SecretSquares x = State.with(letters, letters);
            due("the text", State.read(x, 0), letters);
            due("the key", State.read(x, 1), letters);
        }
    }

    /** "FAULT: there is another sign": each one there is. */
    static void promise04_everyOtherSign() {
        for (int sign = 33; sign <= 126; sign++) {
            boolean letter = sign >= 97 && sign <= 112;
            SecretSquares x = new SecretSquares();
            x.say(sign);
            due("take(1) of the sign " + sign, x.take(1), letter ? 1 : FAULT);
            due("count(2)", x.count(2), letter ? 0 : 1);
            x.wipe();
            x.say(sign);
            due("take(0) of the sign " + sign, x.take(0), letter ? 1 : FAULT);
            due("count(0)", x.count(0), letter ? 1 : 0);
        }
    }

    /** "FAULT: there is another sign", wherever it stands. */
    static void promise04_anotherSignAnywhere() {
        for (String signs : new String[] {"q", "`", "qabc", "abqc", "abcq", "`abc", "abc`", "abcA", "~~", "a!"}) {
            Supplier<SecretSquares> scene = State.then(State::busyEven, x -> State.put(x, signs));
            State.stays("take(0) of " + signs, scene, x -> x.take(0), FAULT);
            State.stays("take(1) of " + signs, scene, x -> x.take(1), FAULT);
        }
        for (int place = 0; place < 48; place++) {
            StringBuilder signs = new StringBuilder(State.FULL_TEXT);
            signs.setCharAt(place, place % 2 == 0 ? 'q' : '`');
            SecretSquares x = new SecretSquares();
            State.put(x, signs.toString());
            due("take(0) with another sign at " + place, x.take(0), FAULT);
            due("count(2)", x.count(2), 48);
        }
    }

    /** "Calls that are refused answer the first that fits": OUTSIDE ahead of FAULT. */
    static void promise04_outsideAheadOfFault() {
        Supplier<SecretSquares> scene = State.then(State::busyEven, x -> State.put(x, "q"));
        State.stays("take(-1)", scene, x -> x.take(-1), OUTSIDE);
        State.stays("take(2)", scene, x -> x.take(2), OUTSIDE);
        State.stays("take(2) of none", State.then(State::busyEven, SecretSquares::wipe), x -> x.take(2), OUTSIDE);
    }

    /** "that on THE PAD, which is empty then" */
    static void promise04_padIsEmptyThen() {
        for (int what = 0; what <= 1; what++) {
            SecretSquares x = new SecretSquares();
            State.put(x, "bcd");
            due("take(" + what + ")", x.take(what), 3);
            due("count(2)", x.count(2), 0);
            due("say", x.say('a'), 1);
            due("take(0)", x.take(0), 1);
            due("the text", State.read(x, 0), "a");
        }
    }

    /** A shorter text, or key, leaves nothing of the longer one. */
    static void promise04_shorterBehindLonger() {
        SecretSquares x = State.with("ponmlk", State.FULL_TEXT);
        State.text(x, "cc");
        State.key(x, "b");
        due("letter(0, 2)", x.letter(0, 2), NONE);
        due("letter(1, 1)", x.letter(1, 1), NONE);
        due("times(0)", x.times(0), 0);
        due("same(1)", x.same(1), 1);
        due("the square", State.read(x, 2), "bacdefghijklmnop");
        State.text(x, "");
        due("letter(0, 0)", x.letter(0, 0), NONE);
    }

    /** "STEPS that can be taken back stay." */
    static void promise04_stepsStay() {
        SecretSquares x = State.with("b", "abc");
        x.hide(0);
        State.text(x, State.FULL_TEXT);
        State.key(x, "cc");
        due("count(3)", x.count(3), 1);
        due("undo()", x.undo(), 0);
        due("the text", State.read(x, 0), "abc");
        due("the key", State.read(x, 1), "cc");
    }

    /** "STEPS that can be taken back stay": ten of them, and images, worth and liked pairs. */
    static void promise04_allElseStays() {
        Supplier<SecretSquares> scene = State.then(State::brimmingEven, x -> State.put(x, "ponmlk"));
        due("images", State.images(State.then(scene, x -> x.take(0))), State.images(scene));
        due("images", State.images(State.then(scene, x -> x.take(1))), State.images(scene));
        due("desk, the same key taken", State.desk(State.then(scene, x -> x.take(1))), State.desk(scene));
        SecretSquares x = scene.get();
        x.take(0);
        due("count(3)", x.count(3), 10);
    }

    /** "WORTH of a LETTER: 0 to 99" */
    static void promise05_worth0To99() {
        SecretSquares x = new SecretSquares();
        int was = 0;
        for (int v = 99; v >= 0; v--) {
            due("worth(3, " + v + ")", x.worth(3, v), was);
            was = v;
        }
        due("worth(3, 99)", x.worth(3, 99), 0);
    }

    /** "OUTSIDE: both": the second. */
    static void promise05_worthOutside() {
        for (int v : Checks.beyond(0, 99)) {
            State.refused("worth(0, " + v + ")", x -> x.worth(0, v), OUTSIDE);
            State.refused("worth(15, " + v + ")", x -> x.worth(15, v), OUTSIDE);
        }
    }

    /** "OUTSIDE: both": the first. */
    static void promise05_letterOutside() {
        for (int letter : Checks.beyond(0, 15)) {
            State.refused("worth(" + letter + ", 50)", x -> x.worth(letter, 50), OUTSIDE);
            State.refused("worth(" + letter + ", 100)", x -> x.worth(letter, 100), OUTSIDE);
        }
    }

    /** "WORTH of a LETTER is v: which it was": each has its own. */
    static void promise05_whichItWas() {
        SecretSquares x = new SecretSquares();
        for (int letter = 0; letter < 16; letter++) {
            due("worth(" + letter + ")", x.worth(letter, 99 - letter), 0);
        }
        for (int letter = 0; letter < 16; letter++) {
            due("count", x.count(10 + letter), 99 - letter);
            due("worth(" + letter + ", 0)", x.worth(letter, 0), 99 - letter);
            due("worth(" + letter + ", 0) again", x.worth(letter, 0), 0);
        }
    }

    /** "A PAIR is LIKED (is = 1), or not (0): how many are": none to all 256. */
    static void promise06_noneToAll() {
        SecretSquares x = new SecretSquares();
        due("like(0, 0, 0) of none", x.like(0, 0, 0), 0);
        for (int pair = 0; pair < 256; pair++) {
            due("like, pair " + pair, x.like(pair / 16, pair % 16, 1), pair + 1);
        }
        due("like(15, 15, 1) of all", x.like(15, 15, 1), 256);
        due("count(4)", x.count(4), 256);
        for (int pair = 0; pair < 200; pair++) {
            due("like no more, pair " + pair, x.like(pair / 16, pair % 16, 0), 255 - pair);
        }
    }

    /** A pair that is liked again is one, and one that is not liked is taken away without a trace. */
    static void promise06_again() {
        SecretSquares x = new SecretSquares();
        due("like(3, 4, 1)", x.like(3, 4, 1), 1);
        due("like(3, 4, 1) again", x.like(3, 4, 1), 1);
        due("like(3, 5, 0)", x.like(3, 5, 0), 1);
        due("like(3, 4, 0)", x.like(3, 4, 0), 0);
        due("like(3, 4, 0) again", x.like(3, 4, 0), 0);
    }

    /** "A PAIR (one LETTER, then another or the same)" */
    static void promise06_oneThenAnother() {
        SecretSquares x = State.with("a", "pa");
        due("like(0, 15, 1)", x.like(0, 15, 1), 1);
        due("good of pa", x.good(), 0);
        due("like(15, 0, 0)", x.like(15, 0, 0), 1);
        due("like(15, 0, 1)", x.like(15, 0, 1), 2);
        due("good of pa", x.good(), 1);
        due("like(0, 15, 0)", x.like(0, 15, 0), 1);
        due("good of pa", x.good(), 1);
        State.text(x, "ppaa");
        due("like(0, 0, 1)", x.like(0, 0, 1), 2);
        due("good of ppaa", x.good(), 2);
        due("like(15, 15, 1)", x.like(15, 15, 1), 3);
        due("good of ppaa", x.good(), 3);
    }

    /** "OUTSIDE: all three" */
    static void promise06_outside() {
        for (int bad : Checks.beyond(0, 15)) {
            State.refused("like(" + bad + ", 0, 1)", x -> x.like(bad, 0, 1), OUTSIDE);
            State.refused("like(0, " + bad + ", 1)", x -> x.like(0, bad, 1), OUTSIDE);
            State.refused("like(" + bad + ", 1, 0)", x -> x.like(bad, 1, 0), OUTSIDE);
            State.refused("like(0, " + bad + ", 0)", x -> x.like(0, bad, 0), OUTSIDE);
        }
        for (int bad : Checks.beyond(0, 1)) {
            State.refused("like(0, 0, " + bad + ")", x -> x.like(0, 0, bad), OUTSIDE);
            State.refused("like(0, 1, " + bad + ")", x -> x.like(0, 1, bad), OUTSIDE);
            State.refused("like(15, 15, " + bad + ")", x -> x.like(15, 15, bad), OUTSIDE);
        }
    }

    private static void places(SecretSquares x, int what, String want) {
        due("letter(" + what + ", -1)", x.letter(what, -1), want.length());
        for (int i = 0; i < want.length(); i++) {
            due("letter(" + what + ", " + i + ")", x.letter(what, i), want.charAt(i) - 'a');
        }
        for (int i : Checks.beyond(-1, want.length() - 1)) {
            due("letter(" + what + ", " + i + ")", x.letter(what, i), NONE);
        }
    }

    /** "at a PLACE of THE TEXT (what = 0)"; "i = -1: how many there are; NONE: there is none such (i below -1, too)" */
    static void promise07_placesOfTheText() {
        places(new SecretSquares(), 0, "");
        for (int size : new int[] {0, 1, 2, 47, 48}) {
            String letters = State.FULL_TEXT.substring(48 - size);
            places(State.with("bed", letters), 0, letters);
        }
    }

    /** "of THE KEY (1)" */
    static void promise07_placesOfTheKey() {
        places(new SecretSquares(), 1, "a");
        for (int size = 1; size <= 6; size++) {
            String letters = "pabpao".substring(0, size);
            places(State.with(letters, "abcdefgh"), 1, letters);
        }
    }

    /** "at place 4 times ROW, and COLUMN, added, of THE SQUARE (2)" */
    static void promise07_placesOfTheSquare() {
        places(new SecretSquares(), 2, State.ALL);
        places(State.with("p", ""), 2, "pabcdefghijklmno");
        places(State.with("ponmlk", State.FULL_TEXT), 2, "ponmlkabcdefghij");
    }

    /** "those of THE KEY, each where it comes first, then all others, a to p" */
    static void promise07_squareOfLikeLetters() {
        String[][] squares = {
            {"a", "abcdefghijklmnop"}, {"aaaaaa", "abcdefghijklmnop"}, {"pppppp", "pabcdefghijklmno"},
            {"papapa", "pabcdefghijklmno"}, {"bab", "bacdefghijklmnop"}, {"abcdef", "abcdefghijklmnop"},
            {"fedcba", "fedcbaghijklmnop"}, {"bbbbba", "bacdefghijklmnop"}, {"hhgghi", "hgiabcdefjklmnop"}};
        for (String[] square : squares) {
            due("the square of " + square[0], State.read(State.with(square[0], ""), 2), square[1]);
        }
    }

    /** "Whatever is told is told as things are then." */
    static void promise07_asThingsAreThen() {
        SecretSquares x = State.with("p", "ab");
        due("the square", State.read(x, 2), "pabcdefghijklmno");
        State.key(x, "c");
        due("the square of another key", State.read(x, 2), "cabdefghijklmnop");
        x.hide(0);
        due("the text", State.read(x, 0), "cd");
    }

    /** "OUTSIDE: what." It comes ahead of NONE. */
    static void promise07_whatOutside() {
        for (int what : Checks.beyond(0, 2)) {
            State.refused("letter(" + what + ", 0)", x -> x.letter(what, 0), OUTSIDE);
            State.refused("letter(" + what + ", -1)", x -> x.letter(what, -1), OUTSIDE);
            State.refused("letter(" + what + ", -2)", x -> x.letter(what, -2), OUTSIDE);
            State.refused("letter(" + what + ", 48)", x -> x.letter(what, 48), OUTSIDE);
        }
    }

    /** What is only told changes nothing, NONE neither. */
    static void promise07_changesNothing() {
        State.stays("letter(0, 0)", State::busyEven, x -> x.letter(0, 0), 0);
        State.stays("letter(1, 3)", State::busyEven, x -> x.letter(1, 3), 4);
        State.stays("letter(2, 15)", State::busyEven, x -> x.letter(2, 15), 15);
        State.stays("letter(2, 16)", State::busyEven, x -> x.letter(2, 16), NONE);
        State.stays("letter(0, 8)", State::busyEven, x -> x.letter(0, 8), NONE);
        State.stays("letter(0, -2)", State::busyEven, x -> x.letter(0, -2), NONE);
        State.stays("letter(0, 48)", State::brimmingEven, x -> x.letter(0, 48), NONE);
    }

    private static List<Supplier<SecretSquares>> scenes() {
        return List.of(State::blank, State::busyEven, State::busyOdd, State::brimmingEven);
    }

    public static void main(String[] args) {
        Checks.run(TextsAndKeysEdgesTest.class, 1, 7);
    }
}
