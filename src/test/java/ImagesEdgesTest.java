import java.util.List;
import java.util.function.Supplier;

/** Promises 18 to 20: every sentence that names a boundary case; the words above a test are the document's. */
public final class ImagesEdgesTest {
    private static final int OUTSIDE = Checks.OUTSIDE, STATE = Checks.STATE;

    private static void due(String call, Object got, Object want) {
        Checks.due(call, got, want);
    }

    private static List<Supplier<SecretSquares>> scenes() {
        return List.of(State::blank, State::busyEven, State::busyOdd, State::brimmingEven, State::brimmingOdd);
    }

    /** Everything that an image keeps becomes another one, to the last letter, pair and step; images stay. */
    private static void changeAll(SecretSquares x) {
        for (int letter = 0; letter < 16; letter++) {
            x.worth(letter, 50 + letter);
        }
        for (int letter = 0; letter < 16; letter++) {
            x.like(letter, letter, 0);
            x.like(letter, (letter + 1) % 16, 0);
            x.like(letter, 15 - letter, 1);
        }
        State.key(x, "klmnop");
        State.times(9, () -> x.hide(0));
        State.text(x, "cd");
        x.hide(0);
    }

    // ---- image

    /** "in an IMAGE (0, 1)"; "OUTSIDE." */
    static void promise18_outside() {
        for (int k : Checks.beyond(0, 1)) {
            State.refused("image(" + k + ")", x -> x.image(k), OUTSIDE);
        }
    }

    /** "All but THE PAD and IMAGES is kept": of a new object, of one that is full, in either image. */
    static void promise18_allIsKept() {
        for (Supplier<SecretSquares> scene : scenes()) {
            String desk = State.desk(scene);
            for (int k = 0; k <= 1; k++) {
                int at = k;
                due("image(" + k + ")", scene.get().image(k), 1);
                due("what image " + k + " keeps", State.image(State.then(scene, x -> x.image(at)), k), desk);
                due("what image " + k + " keeps while all changes", State.image(State.then(scene, x -> {
                    x.image(at);
                    changeAll(x);
                }), k), desk);
            }
        }
    }

    /** It is kept; nothing else changes, the other image neither. */
    static void promise18_allElseStays() {
        for (Supplier<SecretSquares> scene : scenes()) {
            for (int k = 0; k <= 1; k++) {
                int at = k;
                Supplier<SecretSquares> kept = State.then(scene, x -> x.image(at));
                due("desk behind image(" + k + ")", State.desk(kept), State.desk(scene));
                due("pad behind image(" + k + ")", State.pad(kept), State.pad(scene));
                due("the other image", State.image(kept, 1 - k), State.image(scene, 1 - k));
                due("count(5)", kept.get().count(5), scene.get().count(5) | 1 << k);
            }
        }
    }

    /** "in place of what was kept there": a longer one, a shorter one. */
    static void promise18_inPlaceOfWhatWasKept() {
        SecretSquares x = State.with("ponmlk", State.FULL_TEXT);
        State.times(10, () -> x.hide(1));
        due("image(0)", x.image(0), 1);
        State.times(10, x::undo);
        State.key(x, "b");
        State.text(x, "cc");
        due("image(0) again", x.image(0), 1);
        State.text(x, State.FULL_TEXT);
        due("restore(0)", x.restore(0), 1);
        due("all that is told", State.told(x), "cc/b/bacdefghijklmnop/0,0,0,0,0,0,0,0,0,0,0,0,0,0,0,0,0,0");
        due("count(5)", x.count(5), 1);
        due("restore(1)", x.restore(1), STATE);
    }

    /** Two images are two: what is kept in one does not show in the other. */
    static void promise18_twoImages() {
        SecretSquares x = State.with("b", "abc");
        x.image(0);
        x.hide(0);
        x.image(1);
        State.text(x, "p");
        due("restore(0)", x.restore(0), 1);
        due("the text of image 0", State.read(x, 0), "abc");
        due("its steps", x.count(3), 0);
        due("restore(1)", x.restore(1), 1);
        due("the text of image 1", State.read(x, 0), "bcd");
        due("its steps", x.count(3), 1);
        due("undo()", x.undo(), 0);
        due("how the text was", State.read(x, 0), "abc");
    }

    // ---- restore

    /** "OUTSIDE" It comes ahead of STATE. */
    static void promise19_outside() {
        for (int k : Checks.beyond(0, 1)) {
            State.refused("restore(" + k + ")", x -> x.restore(k), OUTSIDE);
        }
    }

    /** "STATE: nothing was kept in it." */
    static void promise19_nothingWasKept() {
        State.stays("restore(0) of a new object", State::blank, x -> x.restore(0), STATE);
        State.stays("restore(1) of a new object", State::blank, x -> x.restore(1), STATE);
        State.stays("restore(1), only 0 is kept", State::busyEven, x -> x.restore(1), STATE);
        State.stays("restore(0), only 1 is kept", () -> {
            SecretSquares x = State.with("b", "abc");
            x.image(1);
            x.hide(0);
            return x;
        }, x -> x.restore(0), STATE);
        State.stays("restore(0) behind a refused image", State.then(State::blank, x -> x.image(2)), x -> x.restore(0),
                STATE);
    }

    /** "All but THE PAD and IMAGES is as it was when it was kept": an image of nothing, too. */
    static void promise19_asItWas() {
        for (Supplier<SecretSquares> scene : scenes()) {
            due("desk behind restore", State.desk(State.then(scene, x -> {
                x.image(0);
                changeAll(x);
                x.restore(0);
            })), State.desk(scene));
        }
        due("a new object's image", State.desk(() -> {
            SecretSquares x = new SecretSquares();
            x.image(1);
            State.key(x, "ponmlk");
            State.text(x, State.FULL_TEXT);
            changeAll(x);
            x.restore(1);
            return x;
        }), State.desk(State::blank));
    }

    /** "All but THE PAD and IMAGES": the pad is as it is, empty, full, and with signs that are no letters. */
    static void promise19_thePadStays() {
        for (String signs : new String[] {"", "p", "q!", State.FULL_TEXT}) {
            Supplier<SecretSquares> scene = State.then(State::busyEven, x -> State.put(x, signs));
            due("pad behind restore", State.pad(State.then(scene, x -> x.restore(0))), State.pad(scene));
        }
        SecretSquares x = new SecretSquares();
        State.put(x, "abc");
        x.image(0);
        x.wipe();
        x.restore(0);
        due("count(2): what was on the pad is not kept", x.count(2), 0);
    }

    /** "the IMAGE stays", the other one, too: it can be restored again, whatever was done since. */
    static void promise19_theImageStays() {
        for (Supplier<SecretSquares> scene : List.<Supplier<SecretSquares>>of(State::busyEven, State::brimmingEven)) {
            due("images behind restore(0)", State.images(State.then(scene, x -> x.restore(0))), State.images(scene));
            due("images behind restore(0) and changes", State.images(State.then(scene, x -> {
                x.restore(0);
                changeAll(x);
            })), State.images(scene));
        }
        due("images behind restore(1)", State.images(State.then(State::brimmingEven, x -> x.restore(1))),
                State.images(State::brimmingEven));
        SecretSquares x = State.busyEven();
        State.times(5, () -> due("restore(0)", x.restore(0), 1));
    }

    /** The steps of an image: ten of them, and the oldest one goes for one more as ever. */
    static void promise19_tenSteps() {
        SecretSquares x = State.with("b", "a");
        State.times(10, () -> x.hide(0));
        x.image(1);
        State.times(10, x::undo);
        due("count(3)", x.count(3), 0);
        x.restore(1);
        due("count(3) behind restore", x.count(3), 10);
        x.hide(0);
        due("count(3) behind one more", x.count(3), 10);
        State.times(9, x::undo);
        due("the last undo()", x.undo(), 0);
        due("the text", State.read(x, 0), "b");
        x.restore(1);
        State.times(9, x::undo);
        due("the last undo() again", x.undo(), 0);
        due("the oldest text of the image", State.read(x, 0), "a");
    }

    /** An image kept of what was restored from the other one. */
    static void promise19_fromOneToTheOther() {
        Supplier<SecretSquares> scene = State.then(State::busyEven, x -> {
            x.restore(0);
            x.image(1);
        });
        due("image 1", State.image(scene, 1), State.image(State::busyEven, 0));
        due("image 0", State.image(scene, 0), State.image(State::busyEven, 0));
    }

    // ---- count

    /** "what = 0 .. 5", "10 to 25"; "OUTSIDE.": those between, too. */
    static void promise20_outside() {
        for (int what : new int[] {-1, 6, 7, 8, 9, 26, 27, 32, 42, -10, -6, 256, 266, 65536, 65546, Integer.MIN_VALUE,
            Integer.MIN_VALUE + 10, Integer.MAX_VALUE}) {
            State.refused("count(" + what + ")", x -> x.count(what), OUTSIDE);
        }
    }

    /** "LETTERS of THE TEXT (what = 0)": none to 48. */
    static void promise20_lettersOfTheText() {
        for (int size = 0; size <= 48; size++) {
            due("count(0)", State.with("a", State.FULL_TEXT.substring(0, size)).count(0), size);
        }
    }

    /** "of THE KEY (1)": 1 to 6, each as often as it is there. */
    static void promise20_lettersOfTheKey() {
        due("count(1) of a new object", new SecretSquares().count(1), 1);
        for (int size = 1; size <= 6; size++) {
            due("count(1)", State.with("b".repeat(size), "").count(1), size);
        }
    }

    /** "signs of THE PAD (2)": none to 48. */
    static void promise20_signsOfThePad() {
        SecretSquares x = new SecretSquares();
        for (int size = 0; size <= 48; size++) {
            due("count(2)", x.count(2), size);
            x.say('~');
        }
        due("count(2) of a full pad", x.count(2), 48);
    }

    /** "STEPS that can be taken back (3)": none to 10, and no more. */
    static void promise20_steps() {
        SecretSquares x = new SecretSquares();
        for (int steps = 0; steps <= 20; steps++) {
            due("count(3) behind " + steps, x.count(3), Math.min(steps, 10));
            if (steps % 2 == 0) {
                x.hide(0);
            } else {
                x.find(5);
            }
        }
        for (int left = 9; left >= 0; left--) {
            x.undo();
            due("count(3)", x.count(3), left);
        }
    }

    /** "PAIRS that are LIKED (4)": none to 256. */
    static void promise20_likedPairs() {
        SecretSquares x = new SecretSquares();
        due("count(4)", x.count(4), 0);
        for (int pair = 0; pair < 256; pair++) {
            x.like(pair % 16, pair / 16, 1);
            if (pair % 16 == 15) {
                due("count(4)", x.count(4), pair + 1);
            }
        }
        x.like(15, 15, 0);
        due("count(4)", x.count(4), 255);
    }

    /** "which IMAGES are kept (5: 1 the first, 2 the second, added)" */
    static void promise20_images() {
        SecretSquares x = new SecretSquares();
        due("count(5) of none", x.count(5), 0);
        x.image(0);
        due("count(5) of the first", x.count(5), 1);
        x.image(0);
        due("count(5) of the first, again", x.count(5), 1);
        x.image(1);
        due("count(5) of both", x.count(5), 3);
        x.restore(0);
        x.restore(1);
        due("count(5) behind restore", x.count(5), 3);
        SecretSquares y = new SecretSquares();
        y.image(1);
        due("count(5) of the second", y.count(5), 2);
        y.image(1);
        due("count(5) of the second, again", y.count(5), 2);
    }

    /** "WORTH of LETTER what less 10 (10 to 25)" */
    static void promise20_worth() {
        SecretSquares x = new SecretSquares();
        for (int letter = 0; letter < 16; letter++) {
            x.worth(letter, 99 - letter);
        }
        for (int letter = 0; letter < 16; letter++) {
            due("count(" + (10 + letter) + ")", x.count(10 + letter), 99 - letter);
        }
    }

    /** It is only told. */
    static void promise20_changesNothing() {
        for (int what : new int[] {0, 1, 2, 3, 4, 5, 10, 25}) {
            State.stays("count(" + what + ")", State::busyEven, x -> x.count(what), State.busyEven().count(what));
        }
    }

    public static void main(String[] args) {
        Checks.run(ImagesEdgesTest.class, 18, 20);
    }
}
