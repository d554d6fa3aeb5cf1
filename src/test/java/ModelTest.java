import java.util.ArrayList;
import java.util.Arrays;
import java.util.HashSet;
import java.util.List;
import java.util.Random;
import java.util.Set;

/**
 * Long runs of calls by chance (the same ones each time), compared call by call with a second writing of the
 * document: with texts as Strings, whose ways are undone by search and not by turning the rule about.
 */
public final class ModelTest {
    private static final int RUNS = 1000;
    /** With the last text of signs, and the reading at the end, a run stays below the document's 512 calls. */
    private static final int CALLS = 300;
    private static final int OUTSIDE = -2, STATE = -3, FULL = -4, NONE = -6, FAULT = -7;

    /** What an image keeps; a copy is all that keeping needs. */
    private static final class Kept {
        String text = "";
        String key = "a";
        int[] worth = new int[16];
        Set<String> liked = new HashSet<>();
        List<String> steps = new ArrayList<>();

        Kept copy() {
            Kept c = new Kept();
            c.text = text;
            c.key = key;
            c.worth = worth.clone();
            c.liked = new HashSet<>(liked);
            c.steps = new ArrayList<>(steps);
            return c;
        }
    }

    private static final class Model {
        String pad = "";
        Kept now = new Kept();
        Kept[] images = new Kept[2];

        static boolean in(int v, int low, int high) {
            return low <= v && v <= high;
        }

        static char sign(int letter) {
            return (char) ('a' + Math.floorMod(letter, 16));
        }

        String square() {
            StringBuilder s = new StringBuilder();
            for (char c : (now.key + "abcdefghijklmnop").toCharArray()) {
                if (s.indexOf(String.valueOf(c)) < 0) {
                    s.append(c);
                }
            }
            return s.toString();
        }

        static String hiddenPair(String square, char one, char other) {
            int r1 = square.indexOf(one) / 4;
            int c1 = square.indexOf(one) % 4;
            int r2 = square.indexOf(other) / 4;
            int c2 = square.indexOf(other) % 4;
            if (one == other) {
                char both = square.charAt((r1 + 1) % 4 * 4 + (c1 + 1) % 4);
                return "" + both + both;
            }
            if (r1 == r2) {
                return "" + square.charAt(r1 * 4 + (c1 + 1) % 4) + square.charAt(r2 * 4 + (c2 + 1) % 4);
            }
            if (c1 == c2) {
                return "" + square.charAt((r1 + 1) % 4 * 4 + c1) + square.charAt((r2 + 1) % 4 * 4 + c2);
            }
            return "" + square.charAt(r1 * 4 + c2) + square.charAt(r2 * 4 + c1);
        }

        static String hiddenByPairs(String square, String text) {
            StringBuilder s = new StringBuilder();
            for (int i = 0; i < text.length(); i += 2) {
                s.append(hiddenPair(square, text.charAt(i), text.charAt(i + 1)));
            }
            return s.toString();
        }

        static String foundByPairs(String square, String text) {
            StringBuilder s = new StringBuilder();
            for (int i = 0; i < text.length(); i += 2) {
                for (char one = 'a'; one <= 'p'; one++) {
                    for (char other = 'a'; other <= 'p'; other++) {
                        if (hiddenPair(square, one, other).equals(text.substring(i, i + 2))) {
                            s.append(one).append(other);
                        }
                    }
                }
            }
            return s.toString();
        }

        static String inColumns(String text, int[] order) {
            StringBuilder[] columns = new StringBuilder[order.length];
            for (int c = 0; c < columns.length; c++) {
                columns[c] = new StringBuilder();
            }
            for (int i = 0; i < text.length(); i++) {
                columns[i % columns.length].append(text.charAt(i));
            }
            StringBuilder s = new StringBuilder();
            for (int c : order) {
                s.append(columns[c]);
            }
            return s.toString();
        }

        static String onRails(String text, int rails) {
            StringBuilder s = new StringBuilder();
            int round = 2 * rails - 2;
            for (int r = 0; r < rails; r++) {
                for (int i = 0; i < text.length(); i++) {
                    if (i % round == r || i % round == round - r) {
                        s.append(text.charAt(i));
                    }
                }
            }
            return s.toString();
        }

        static String unmixed(String text, String mixedPlaces) {
            char[] s = new char[text.length()];
            for (int i = 0; i < s.length; i++) {
                s[mixedPlaces.charAt(i)] = text.charAt(i);
            }
            return new String(s);
        }

        static String places(int many) {
            StringBuilder s = new StringBuilder();
            for (int i = 0; i < many; i++) {
                s.append((char) i);
            }
            return s.toString();
        }

        int[] keyOrder() {
            List<Integer> columns = new ArrayList<>();
            for (int c = 0; c < now.key.length(); c++) {
                columns.add(c);
            }
            columns.sort((p, q) -> now.key.charAt(p) - now.key.charAt(q));
            return columns.stream().mapToInt(Integer::intValue).toArray();
        }

        String withKey(String text, int keyLetters, int sense) {
            StringBuilder s = new StringBuilder();
            for (int i = 0; i < text.length(); i++) {
                s.append(sign(text.charAt(i) - 'a' + sense * (now.key.charAt(i % keyLetters) - 'a')));
            }
            return s.toString();
        }

        String apart(String text) {
            String square = square();
            String rows = "";
            String columns = "";
            for (char c : text.toCharArray()) {
                rows += square.indexOf(c) / 4;
                columns += square.indexOf(c) % 4;
            }
            String line = rows + columns;
            String s = "";
            for (int i = 0; i < line.length(); i += 2) {
                s += square.charAt((line.charAt(i) - '0') * 4 + line.charAt(i + 1) - '0');
            }
            return s;
        }

        String together(String text) {
            String square = square();
            String line = "";
            for (char c : text.toCharArray()) {
                line += "" + square.indexOf(c) / 4 + square.indexOf(c) % 4;
            }
            String s = "";
            for (int i = 0; i < text.length(); i++) {
                s += square.charAt((line.charAt(i) - '0') * 4 + line.charAt(text.length() + i) - '0');
            }
            return s;
        }

        String changed(int way, boolean hides) {
            String t = now.text;
            switch (way) {
                case 0:
                    return withKey(t, 1, hides ? 1 : -1);
                case 1:
                    return withKey(t, now.key.length(), hides ? 1 : -1);
                case 2:
                    return hides ? hiddenByPairs(square(), t) : foundByPairs(square(), t);
                case 3:
                    return hides ? inColumns(t, keyOrder()) : unmixed(t, inColumns(places(t.length()), keyOrder()));
                case 4:
                    int rails = now.key.length() + 1;
                    return hides ? onRails(t, rails) : unmixed(t, onRails(places(t.length()), rails));
                default:
                    return hides ? apart(t) : together(t);
            }
        }

        int step(int way, boolean hides) {
            if (!in(way, 0, 5)) {
                return OUTSIDE;
            }
            if (way == 2 && now.text.length() % 2 == 1) {
                return STATE;
            }
            String t = changed(way, hides);
            int others = 0;
            for (int i = 0; i < t.length(); i++) {
                others += t.charAt(i) == now.text.charAt(i) ? 0 : 1;
            }
            now.steps.add(now.text);
            if (now.steps.size() > 10) {
                now.steps.remove(0);
            }
            now.text = t;
            return others;
        }

        int goodOf(String text) {
            int n = 0;
            for (int i = 0; i + 2 <= text.length(); i++) {
                n += now.liked.contains(text.substring(i, i + 2)) ? 1 : 0;
            }
            return n;
        }

        int take(int what) {
            if (!in(what, 0, 1)) {
                return OUTSIDE;
            }
            if (!pad.matches(what == 0 ? "[a-p]*" : "[a-p]{1,6}")) {
                return FAULT;
            }
            if (what == 0) {
                now.text = pad;
            } else {
                now.key = pad;
            }
            int size = pad.length();
            pad = "";
            return size;
        }

        int say(int sign) {
            if (!in(sign, 33, 126)) {
                return OUTSIDE;
            }
            if (pad.length() == 48) {
                return FULL;
            }
            pad += (char) sign;
            return pad.length();
        }

        int wipe() {
            int had = pad.length();
            pad = "";
            return had;
        }

        int worth(int letter, int v) {
            if (!in(letter, 0, 15) || !in(v, 0, 99)) {
                return OUTSIDE;
            }
            int was = now.worth[letter];
            now.worth[letter] = v;
            return was;
        }

        int like(int one, int other, int is) {
            if (!in(one, 0, 15) || !in(other, 0, 15) || !in(is, 0, 1)) {
                return OUTSIDE;
            }
            String pair = "" + sign(one) + sign(other);
            if (is == 1) {
                now.liked.add(pair);
            } else {
                now.liked.remove(pair);
            }
            return now.liked.size();
        }

        int letter(int what, int i) {
            if (!in(what, 0, 2)) {
                return OUTSIDE;
            }
            String row = what == 0 ? now.text : what == 1 ? now.key : square();
            return i == -1 ? row.length() : in(i, 0, row.length() - 1) ? row.charAt(i) - 'a' : NONE;
        }

        int undo() {
            if (now.steps.isEmpty()) {
                return STATE;
            }
            now.text = now.steps.remove(now.steps.size() - 1);
            return now.steps.size();
        }

        int times(int letter) {
            return in(letter, 0, 15) ? (int) now.text.chars().filter(c -> c == sign(letter)).count() : OUTSIDE;
        }

        int sameAt(int d) {
            int n = 0;
            for (int i = 0; i + d < now.text.length(); i++) {
                n += now.text.charAt(i) == now.text.charAt(i + d) ? 1 : 0;
            }
            return n;
        }

        int same(int d) {
            return in(d, 1, 47) ? sameAt(d) : OUTSIDE;
        }

        int length(int m) {
            if (!in(m, 1, 20)) {
                return OUTSIDE;
            }
            int best = NONE;
            double most = -1;
            for (int d = 1; d <= m && d < now.text.length(); d++) {
                // Quotients of numbers below 48 that differ are further apart than doubles are cut.
                double share = (double) sameAt(d) / (now.text.length() - d);
                if (share > most) {
                    most = share;
                    best = d;
                }
            }
            return best;
        }

        int shift(int n, int f, int i, int what) {
            if (!in(n, 1, 8) || !in(f, 0, n - 1) || !in(i, 0, 15) || !in(what, 0, 1)) {
                return OUTSIDE;
            }
            List<int[]> ranked = new ArrayList<>();
            for (int k = 0; k < 16; k++) {
                int score = 0;
                for (int at = 0; at < now.text.length(); at++) {
                    if (at >= f && (at - f) % n == 0) {
                        score += now.worth[sign(now.text.charAt(at) - 'a' - k) - 'a'];
                    }
                }
                ranked.add(new int[] {k, score});
            }
            ranked.sort((p, q) -> p[1] != q[1] ? q[1] - p[1] : p[0] - q[0]);
            return ranked.get(i)[what];
        }

        void orders(int n, List<Integer> begun, List<int[]> all) {
            if (begun.size() == n) {
                all.add(begun.stream().mapToInt(Integer::intValue).toArray());
                return;
            }
            for (int c = 0; c < n; c++) {
                if (!begun.contains(c)) {
                    begun.add(c);
                    orders(n, begun, all);
                    begun.remove(begun.size() - 1);
                }
            }
        }

        int order(int n, int what) {
            if (!in(n, 2, 6) || !in(what, -2, n - 1)) {
                return OUTSIDE;
            }
            List<int[]> all = new ArrayList<>();
            orders(n, new ArrayList<>(), all);
            String places = places(now.text.length());
            int[] goods = all.stream().mapToInt(o -> goodOf(unmixed(now.text, inColumns(places, o)))).toArray();
            int most = Arrays.stream(goods).max().getAsInt();
            if (what == -1) {
                return most;
            }
            if (what == -2) {
                return (int) Arrays.stream(goods).filter(g -> g == most).count();
            }
            int first = 0;
            while (goods[first] != most) {
                first++;
            }
            return all.get(first)[what];
        }

        int climb(int seed, int n, int what) {
            if (!in(seed, 0, 9999) || !in(n, 0, 60) || !in(what, -2, 15)) {
                return OUTSIDE;
            }
            if (now.text.length() % 2 == 1) {
                return STATE;
            }
            String square = square();
            long z = seed;
            int stays = 0;
            for (int s = 0; s < n; s++) {
                z = (z * 75 + 74) % 65537;
                char[] next = square.toCharArray();
                next[(int) (z % 16)] = square.charAt((int) (z / 16 % 16));
                next[(int) (z / 16 % 16)] = square.charAt((int) (z % 16));
                String tried = new String(next);
                if (goodOf(foundByPairs(tried, now.text)) >= goodOf(foundByPairs(square, now.text))) {
                    square = tried;
                    stays++;
                }
            }
            return what == -1 ? goodOf(foundByPairs(square, now.text)) : what == -2 ? stays : square.charAt(what) - 'a';
        }

        int image(int k) {
            if (!in(k, 0, 1)) {
                return OUTSIDE;
            }
            images[k] = now.copy();
            return 1;
        }

        int restore(int k) {
            if (!in(k, 0, 1)) {
                return OUTSIDE;
            }
            if (images[k] == null) {
                return STATE;
            }
            now = images[k].copy();
            return 1;
        }

        int count(int what) {
            int kept = (images[0] == null ? 0 : 1) + (images[1] == null ? 0 : 2);
            int[] sizes = {now.text.length(), now.key.length(), pad.length(), now.steps.size(), now.liked.size(), kept};
            return in(what, 0, 5) ? sizes[what] : in(what, 10, 25) ? now.worth[what - 10] : OUTSIDE;
        }
    }

    private static final String[] NAMES = {"say", "wipe", "take", "worth", "like", "letter", "hide", "find", "undo",
        "times", "same", "length", "shift", "good", "order", "climb", "image", "restore", "count"};

    private static int ofClass(SecretSquares x, int call, int[] a) {
        switch (NAMES[call]) {
            case "say": return x.say(a[0]);
            case "wipe": return x.wipe();
            case "take": return x.take(a[0]);
            case "worth": return x.worth(a[0], a[1]);
            case "like": return x.like(a[0], a[1], a[2]);
            case "letter": return x.letter(a[0], a[1]);
            case "hide": return x.hide(a[0]);
            case "find": return x.find(a[0]);
            case "undo": return x.undo();
            case "times": return x.times(a[0]);
            case "same": return x.same(a[0]);
            case "length": return x.length(a[0]);
            case "shift": return x.shift(a[0], a[1], a[2], a[3]);
            case "good": return x.good();
            case "order": return x.order(a[0], a[1]);
            case "climb": return x.climb(a[0], a[1], a[2]);
            case "image": return x.image(a[0]);
            case "restore": return x.restore(a[0]);
            default: return x.count(a[0]);
        }
    }

    private static int ofModel(Model m, int call, int[] a) {
        switch (NAMES[call]) {
            case "say": return m.say(a[0]);
            case "wipe": return m.wipe();
            case "take": return m.take(a[0]);
            case "worth": return m.worth(a[0], a[1]);
            case "like": return m.like(a[0], a[1], a[2]);
            case "letter": return m.letter(a[0], a[1]);
            case "hide": return m.step(a[0], true);
            case "find": return m.step(a[0], false);
            case "undo": return m.undo();
            case "times": return m.times(a[0]);
            case "same": return m.same(a[0]);
            case "length": return m.length(a[0]);
            case "shift": return m.shift(a[0], a[1], a[2], a[3]);
            case "good": return m.goodOf(m.now.text);
            case "order": return m.order(a[0], a[1]);
            case "climb": return m.climb(a[0], a[1], a[2]);
            case "image": return m.image(a[0]);
            case "restore": return m.restore(a[0]);
            default: return m.count(a[0]);
        }
    }

    /** How often each call comes, in the order of NAMES: the model's dear ones seldom. */
    private static final int[] OFTEN = {0, 2, 3, 10, 60, 40, 20, 20, 12, 6, 8, 10, 14, 12, 2, 3, 3, 3, 14};

    private static int pick(Random r) {
        int left = r.nextInt(Arrays.stream(OFTEN).sum());
        int call = 0;
        while (left >= OFTEN[call]) {
            left -= OFTEN[call];
            call++;
        }
        return call;
    }

    private static int within(Random r, int low, int high) {
        if (r.nextInt(40) == 0) {
            int[] wrong = {low - 1, high + 1, Integer.MIN_VALUE, Integer.MAX_VALUE, low - 2, high + 2};
            return wrong[r.nextInt(wrong.length)];
        }
        return low + r.nextInt(high - low + 1);
    }

    private static int[] arguments(Random r, int call, int letters) {
        switch (NAMES[call]) {
            case "take": return new int[] {within(r, 0, 1)};
            case "worth": return new int[] {within(r, 0, 15), within(r, 0, 99)};
            case "like": return new int[] {within(r, 0, letters - 1), within(r, 0, letters - 1),
                r.nextInt(5) == 0 ? within(r, 0, 1) : 1};
            case "letter": return new int[] {within(r, 0, 2), within(r, -1, 20)};
            case "hide": case "find": return new int[] {within(r, 0, 5)};
            case "times": return new int[] {within(r, 0, 15)};
            case "same": return new int[] {r.nextBoolean() ? within(r, 1, 10) : within(r, 1, 47)};
            case "length": return new int[] {within(r, 1, 20)};
            case "shift": {
                int n = within(r, 1, 8);
                return new int[] {n, within(r, 0, Math.max(1, Math.min(8, n)) - 1), within(r, 0, 15), within(r, 0, 1)};
            }
            case "order": {
                int n = within(r, 2, 6);
                return new int[] {n, within(r, -2, Math.max(1, Math.min(6, n)) - 1)};
            }
            case "climb": return new int[] {within(r, 0, 9999), within(r, 0, 60), within(r, -2, 15)};
            case "image": case "restore": return new int[] {within(r, 0, 1)};
            case "count": return new int[] {within(r, 0, 25)};
            default: return new int[0];
        }
    }

    /** Signs for the pad, mostly letters out of a few, so that pairs, shifts and lengths come again. */
    private static List<Integer> signs(Random r, int letters, boolean forKey) {
        int many = forKey ? r.nextInt(20) == 0 ? r.nextInt(9) : 1 + r.nextInt(6) : r.nextInt(50);
        List<Integer> all = new ArrayList<>();
        for (int i = 0; i < many; i++) {
            boolean wild = r.nextInt(400) == 0;
            all.add(wild ? 30 + r.nextInt(100) : 'a' + r.nextInt(letters));
        }
        return all;
    }

    private static int made = 0;

    private static boolean agree(SecretSquares x, Model m, int call, int[] a, int run) {
        int got = ofClass(x, call, a);
        int want = ofModel(m, call, a);
        made++;
        if (got != want) {
            System.out.println("run " + run + ": " + NAMES[call] + Arrays.toString(a) + " answered " + got
                    + ", due is " + want + " (text " + m.now.text + ", key " + m.now.key + ")");
        }
        return got == want;
    }

    private static boolean run(int run) {
        Random r = new Random(run);
        SecretSquares x = new SecretSquares();
        Model m = new Model();
        int letters = r.nextBoolean() ? 16 : 2 + r.nextInt(15);
        int calls = 0;
        boolean fine = true;
        while (fine && calls < CALLS) {
            if (calls == 0 || r.nextInt(40) == 0) {
                int what = r.nextInt(2);
                for (int sign : signs(r, letters, what == 1)) {
                    fine &= agree(x, m, 0, new int[] {sign}, run);
                    calls++;
                }
                fine &= agree(x, m, 2, new int[] {what}, run);
                calls++;
            } else {
                int call = pick(r);
                fine &= agree(x, m, call, arguments(r, call, letters), run);
                calls++;
            }
        }
        for (int what = 0; what <= 2; what++) {
            for (int i = -2; i <= 48; i++) {
                fine = fine && agree(x, m, 5, new int[] {what, i}, run);
            }
        }
        return fine;
    }

    public static void main(String[] args) {
        int wrong = 0;
        for (int run = 1; run <= RUNS; run++) {
            wrong += run(run) ? 0 : 1;
        }
        System.out.println(made + " calls compared, " + wrong + " of " + RUNS + " runs differ");
        if (wrong != 0) {
            System.exit(1);
        }
    }
}
