import java.util.function.Consumer;
import java.util.function.Supplier;
import java.util.function.ToIntFunction;

/**
 * All that an object's answers can show of its state. Some of it shows only by changing it (what the pad bears, the
 * texts of steps, the images), so a scene is made anew for each part: that keeps every object below 512 calls, too.
 */
final class State {
    static final String ALL = "abcdefghijklmnop";
    static final String FULL_TEXT = "abcdefghijklmnopponmlkjihgfedcbaacegikmobdfhjlnp";

    private State() {
    }

    // ---- how to bring an object into a state

    static void put(SecretSquares x, String signs) {
        x.wipe();
        for (char sign : signs.toCharArray()) {
            x.say(sign);
        }
    }

    static void text(SecretSquares x, String letters) {
        put(x, letters);
        Checks.due("take(0) of " + letters, x.take(0), letters.length());
    }

    static void key(SecretSquares x, String letters) {
        put(x, letters);
        Checks.due("take(1) of " + letters, x.take(1), letters.length());
    }

    static SecretSquares with(String key, String text) {
        SecretSquares x = new SecretSquares();
        key(x, key);
        text(x, text);
        return x;
    }

    static void times(int n, Runnable call) {
        for (int i = 0; i < n; i++) {
            call.run();
        }
    }

    // ---- scenes: the same state each time

    static SecretSquares blank() {
        return new SecretSquares();
    }

    /** Something of everything; image 0 is kept, image 1 is not. */
    static SecretSquares busy(String text) {
        SecretSquares x = with("cab", "ponm");
        x.worth(1, 5);
        x.like(2, 3, 1);
        x.hide(0);
        x.image(0);
        x.find(1);
        key(x, "fade");
        text(x, text);
        x.worth(0, 99);
        x.worth(15, 1);
        x.like(0, 1, 1);
        x.like(15, 15, 1);
        x.hide(5);
        text(x, text);
        put(x, "kin");
        return x;
    }

    static SecretSquares busyEven() {
        return busy("abcdefgh");
    }

    static SecretSquares busyOdd() {
        return busy("abcdefg");
    }

    /** As full as it gets: text, key, pad, steps and images. */
    static SecretSquares brimming(String text) {
        SecretSquares x = with("ponmlk", text);
        x.like(0, 1, 1);
        x.image(1);
        times(9, () -> x.hide(1));
        x.worth(7, 99);
        x.like(1, 2, 1);
        x.image(0);
        times(3, () -> x.hide(4));
        put(x, "abcdefghijklmnop".repeat(3));
        return x;
    }

    static SecretSquares brimmingEven() {
        return brimming(FULL_TEXT);
    }

    static SecretSquares brimmingOdd() {
        return brimming(FULL_TEXT.substring(1));
    }

    // ---- what can be seen

    static String read(SecretSquares x, int what) {
        StringBuilder letters = new StringBuilder();
        int size = x.letter(what, -1);
        for (int i = 0; i < size; i++) {
            letters.append((char) ('a' + x.letter(what, i)));
        }
        return letters.toString();
    }

    /** What calls tell that change nothing; which images are kept and how full the pad is are told apart. */
    static String told(SecretSquares x) {
        StringBuilder all = new StringBuilder();
        for (int what = 0; what <= 2; what++) {
            all.append(read(x, what)).append('/');
        }
        for (int what = 10; what <= 25; what++) {
            all.append(x.count(what)).append(',');
        }
        return all.append(x.count(3)).append(',').append(x.count(4)).toString();
    }

    private static String liked(SecretSquares x) {
        StringBuilder pairs = new StringBuilder();
        int left = x.count(4);
        for (int pair = 0; pair < 256; pair++) {
            int now = x.like(pair / 16, pair % 16, 0);
            if (now != left) {
                pairs.append(pair).append(' ');
            }
            left = now;
        }
        return pairs.toString();
    }

    private static String steps(Supplier<SecretSquares> scene) {
        StringBuilder texts = new StringBuilder();
        int steps = scene.get().count(3);
        for (int back = 1; back <= steps + 1; back++) {
            SecretSquares x = scene.get();
            times(back - 1, x::undo);
            texts.append(x.undo()).append(read(x, 0)).append(' ');
        }
        return texts.toString();
    }

    /** All but the pad and images. */
    static String desk(Supplier<SecretSquares> scene) {
        return told(scene.get()) + "|" + liked(scene.get()) + "|" + steps(scene);
    }

    static String pad(Supplier<SecretSquares> scene) {
        SecretSquares x = scene.get();
        int signs = x.count(2);
        int taken = x.take(0);
        return signs + " " + (taken == signs ? read(x, 0) : "refused: " + taken);
    }

    static String image(Supplier<SecretSquares> scene, int k) {
        int answer = scene.get().restore(k);
        return answer == 1 ? desk(then(scene, x -> x.restore(k))) : "refused: " + answer;
    }

    static String images(Supplier<SecretSquares> scene) {
        return scene.get().count(5) + " " + image(scene, 0) + " " + image(scene, 1);
    }

    static String all(Supplier<SecretSquares> scene) {
        return desk(scene) + "\n" + pad(scene) + "\n" + images(scene);
    }

    static Supplier<SecretSquares> then(Supplier<SecretSquares> scene, Consumer<SecretSquares> calls) {
        return () -> {
            SecretSquares x = scene.get();
            calls.accept(x);
            return x;
        };
    }

    // ---- what is compared

    /** The call answers as due in that state, and all is as it was. */
    static void stays(String call, Supplier<SecretSquares> scene, ToIntFunction<SecretSquares> asked, int want) {
        Checks.due(call, asked.applyAsInt(scene.get()), want);
        Checks.due("all behind " + call, all(then(scene, asked::applyAsInt)), all(scene));
    }

    /** Refused whatever the state is: with nothing there, with something, an odd text, and all full. */
    static void refused(String call, ToIntFunction<SecretSquares> asked, int want) {
        stays(call + " of a new object", State::blank, asked, want);
        stays(call + " of an even text", State::busyEven, asked, want);
        stays(call + " of an odd text", State::busyOdd, asked, want);
        stays(call + " with all full", State::brimmingEven, asked, want);
        stays(call + " with all full, odd", State::brimmingOdd, asked, want);
    }
}
