/**
 * Secret squares: a text of sixteen letters is hidden and found again by a key, and read without one by counting,
 * ranking and climbing. Every row is made with the object: no call makes a new one.
 */
public final class SecretSquares {
    public static final int OUTSIDE = -2, STATE = -3, FULL = -4, NONE = -6, FAULT = -7;

    private static final int LETTERS = 16;
    private static final int MOST_SIGNS = 48;
    private static final int MOST_KEY = 6;
    private static final int MOST_STEPS = 10;
    private static final int MOST_COLUMNS = 6;
    private static final int MOST_ORDERS = 720;
    private static final int IMAGES = 2;

    private static final int SHIFT = 0, WORD = 1, PAIRS = 2, COLUMNS = 3, RAILS = 4, APART = 5;

    private final int[] pad;
    private int padSize;
    private final Desk desk;
    private final Desk[] images;
    /** Bit k is set when image k is kept: the very number that count(5) tells. */
    private int keptImages;
    private final Worker worker;
    private final int[] scores;
    private final int[] bestOrder;

    public SecretSquares() {
        pad = new int[MOST_SIGNS];
        desk = new Desk();
        images = new Desk[IMAGES];
        for (int k = 0; k < IMAGES; k++) {
            images[k] = new Desk();
        }
        worker = new Worker();
        scores = new int[LETTERS];
        bestOrder = new int[MOST_COLUMNS];
    }

    // ---- 1 texts, keys

    public int say(int sign) {
        if (isOutside(sign, 33, 126)) {
            return OUTSIDE;
        }
        if (padSize >= MOST_SIGNS) {
            return FULL;
        }
        pad[padSize] = sign;
        padSize++;
        return padSize;
    }

    public int wipe() {
        int had = padSize;
        padSize = 0;
        return had;
    }

    public int take(int what) {
        if (isOutside(what, 0, 1)) {
            return OUTSIDE;
        }
        if (!padHasOnlyLetters() || (what == 1 && isOutside(padSize, 1, MOST_KEY))) {
            return FAULT;
        }
        if (what == 0) {
            readPadInto(desk.text);
            desk.textSize = padSize;
        } else {
            readPadInto(desk.key);
            desk.keySize = padSize;
        }
        return wipe();
    }

    public int worth(int letter, int v) {
        if (isNoLetter(letter) || isOutside(v, 0, 99)) {
            return OUTSIDE;
        }
        int was = desk.worth[letter];
        desk.worth[letter] = v;
        return was;
    }

    public int like(int one, int other, int is) {
        if (isNoLetter(one) || isNoLetter(other) || isOutside(is, 0, 1)) {
            return OUTSIDE;
        }
        int bit = 1 << other;
        desk.liked[one] = is == 1 ? desk.liked[one] | bit : desk.liked[one] & ~bit;
        return desk.likedPairs();
    }

    public int letter(int what, int i) {
        switch (what) {
            case 0:
                return letterAt(desk.text, desk.textSize, i);
            case 1:
                return letterAt(desk.key, desk.keySize, i);
            case 2:
                worker.square.layOut(desk.key, desk.keySize);
                return letterAt(worker.square.letters, LETTERS, i);
            default:
                return OUTSIDE;
        }
    }

    // ---- 2 hidden, found

    public int hide(int way) {
        return step(way, true);
    }

    public int find(int way) {
        return step(way, false);
    }

    public int undo() {
        if (desk.stepCount == 0) {
            return STATE;
        }
        desk.takeStepBack();
        return desk.stepCount;
    }

    // ---- 3 without a key

    public int times(int letter) {
        if (isNoLetter(letter)) {
            return OUTSIDE;
        }
        int found = 0;
        for (int i = 0; i < desk.textSize; i++) {
            if (desk.text[i] == letter) {
                found++;
            }
        }
        return found;
    }

    public int same(int d) {
        if (isOutside(d, 1, MOST_SIGNS - 1)) {
            return OUTSIDE;
        }
        return sameAt(d);
    }

    public int length(int m) {
        if (isOutside(m, 1, 20)) {
            return OUTSIDE;
        }
        if (desk.textSize < 2) {
            return NONE;
        }
        int best = 1;
        int bestSame = sameAt(1);
        for (int d = 2; d <= m && d < desk.textSize; d++) {
            int same = sameAt(d);
            // The two quotients are compared crosswise, so that nothing is cut off.
            if (same * (desk.textSize - best) > bestSame * (desk.textSize - d)) {
                best = d;
                bestSame = same;
            }
        }
        return best;
    }

    public int shift(int n, int f, int i, int what) {
        if (isOutside(n, 1, 8) || isOutside(f, 0, n - 1) || isOutside(i, 0, LETTERS - 1) || isOutside(what, 0, 1)) {
            return OUTSIDE;
        }
        for (int k = 0; k < LETTERS; k++) {
            scores[k] = scoreOf(k, n, f);
        }
        int k = shiftRanked(i);
        return what == 0 ? k : scores[k];
    }

    public int good() {
        return desk.likedIn(desk.text);
    }

    public int order(int n, int what) {
        if (isOutside(n, 2, MOST_COLUMNS) || isOutside(what, -2, n - 1)) {
            return OUTSIDE;
        }
        worker.startOrder(n);
        int best = -1;
        int asGood = 0;
        boolean more = true;
        for (int tried = 0; more && tried < MOST_ORDERS; tried++) {
            int now = goodByOrder(n);
            if (now > best) {
                best = now;
                asGood = 0;
                System.arraycopy(worker.order, 0, bestOrder, 0, n);
            }
            if (now == best) {
                asGood++;
            }
            more = worker.nextOrder(n);
        }
        if (what == -1) {
            return best;
        }
        return what == -2 ? asGood : bestOrder[what];
    }

    public int climb(int seed, int n, int what) {
        if (isOutside(seed, 0, 9999) || isOutside(n, 0, 60) || isOutside(what, -2, LETTERS - 1)) {
            return OUTSIDE;
        }
        if (hasOddText()) {
            return STATE;
        }
        Square square = worker.square;
        square.layOut(desk.key, desk.keySize);
        int best = goodByPairs();
        int stayed = 0;
        int z = seed;
        for (int done = 0; done < n; done++) {
            z = (75 * z + 74) % 65537;
            int one = z % LETTERS;
            int other = z / LETTERS % LETTERS;
            square.exchange(one, other);
            int now = goodByPairs();
            if (now < best) {
                square.exchange(one, other);
            } else {
                best = now;
                stayed++;
            }
        }
        if (what == -1) {
            return best;
        }
        return what == -2 ? stayed : square.letters[what];
    }

    // ---- 4 images

    public int image(int k) {
        if (isOutside(k, 0, IMAGES - 1)) {
            return OUTSIDE;
        }
        images[k].copyFrom(desk);
        keptImages |= 1 << k;
        return 1;
    }

    public int restore(int k) {
        if (isOutside(k, 0, IMAGES - 1)) {
            return OUTSIDE;
        }
        if (((keptImages >> k) & 1) == 0) {
            return STATE;
        }
        desk.copyFrom(images[k]);
        return 1;
    }

    public int count(int what) {
        switch (what) {
            case 0:
                return desk.textSize;
            case 1:
                return desk.keySize;
            case 2:
                return padSize;
            case 3:
                return desk.stepCount;
            case 4:
                return desk.likedPairs();
            case 5:
                return keptImages;
            default:
                return isOutside(what, 10, 25) ? OUTSIDE : desk.worth[what - 10];
        }
    }

    // ---- what the calls share

    private static boolean isOutside(int value, int least, int most) {
        return value < least || value > most;
    }

    private static boolean isNoLetter(int value) {
        return isOutside(value, 0, LETTERS - 1);
    }

    private boolean padHasOnlyLetters() {
        for (int i = 0; i < padSize; i++) {
            if (isNoLetter(pad[i] - 'a')) {
                return false;
            }
        }
        return true;
    }

    private void readPadInto(int[] row) {
        for (int i = 0; i < padSize && i < row.length; i++) {
            row[i] = pad[i] - 'a';
        }
    }

    private static int letterAt(int[] row, int size, int i) {
        if (i == -1) {
            return size;
        }
        return isOutside(i, 0, size - 1) ? NONE : row[i];
    }

    private boolean hasOddText() {
        return (desk.textSize & 1) == 1;
    }

    private int step(int way, boolean hides) {
        if (isOutside(way, SHIFT, APART)) {
            return OUTSIDE;
        }
        if (way == PAIRS && hasOddText()) {
            return STATE;
        }
        worker.work(desk, way, hides);
        desk.keepStep();
        int changed = 0;
        for (int i = 0; i < desk.textSize; i++) {
            if (desk.text[i] != worker.made[i]) {
                changed++;
            }
            desk.text[i] = worker.made[i];
        }
        return changed;
    }

    private int sameAt(int d) {
        int found = 0;
        for (int i = d; i < desk.textSize; i++) {
            if (desk.text[i - d] == desk.text[i]) {
                found++;
            }
        }
        return found;
    }

    private int scoreOf(int k, int n, int f) {
        int sum = 0;
        for (int i = f; i < desk.textSize; i += n) {
            sum += desk.worth[(desk.text[i] - k) & (LETTERS - 1)];
        }
        return sum;
    }

    private int shiftRanked(int rank) {
        for (int k = 0; k < LETTERS; k++) {
            if (shiftsAheadOf(k) == rank) {
                return k;
            }
        }
        return 0;
    }

    private int shiftsAheadOf(int k) {
        int ahead = 0;
        for (int rival = 0; rival < LETTERS; rival++) {
            if (scores[rival] > scores[k] || (scores[rival] == scores[k] && rival < k)) {
                ahead++;
            }
        }
        return ahead;
    }

    private int goodByOrder(int columns) {
        worker.readColumns(desk.textSize, columns);
        worker.putInPlace(desk, false);
        return desk.likedIn(worker.made);
    }

    private int goodByPairs() {
        worker.changePairs(desk, false);
        return desk.likedIn(worker.made);
    }

    /** All that an image keeps. */
    private static final class Desk {
        final int[] text = new int[MOST_SIGNS];
        int textSize;
        /** The key is the letter a at first: one letter, whose number is 0. */
        final int[] key = new int[MOST_KEY];
        int keySize = 1;
        final int[] worth = new int[LETTERS];
        /** A row of bits for each letter: bit b of row a is set when the pair a, b is liked. */
        final int[] liked = new int[LETTERS];
        /** Earlier texts, the oldest first, each in a stretch of its own. */
        final int[] steps = new int[MOST_STEPS * MOST_SIGNS];
        final int[] stepSizes = new int[MOST_STEPS];
        int stepCount;

        void copyFrom(Desk other) {
            System.arraycopy(other.text, 0, text, 0, MOST_SIGNS);
            textSize = other.textSize;
            System.arraycopy(other.key, 0, key, 0, MOST_KEY);
            keySize = other.keySize;
            System.arraycopy(other.worth, 0, worth, 0, LETTERS);
            System.arraycopy(other.liked, 0, liked, 0, LETTERS);
            System.arraycopy(other.steps, 0, steps, 0, MOST_STEPS * MOST_SIGNS);
            System.arraycopy(other.stepSizes, 0, stepSizes, 0, MOST_STEPS);
            stepCount = other.stepCount;
        }

        void keepStep() {
            if (stepCount >= MOST_STEPS) {
                dropOldestStep();
            }
            System.arraycopy(text, 0, steps, stepCount * MOST_SIGNS, textSize);
            stepSizes[stepCount] = textSize;
            stepCount++;
        }

        private void dropOldestStep() {
            System.arraycopy(steps, MOST_SIGNS, steps, 0, (MOST_STEPS - 1) * MOST_SIGNS);
            System.arraycopy(stepSizes, 1, stepSizes, 0, MOST_STEPS - 1);
            stepCount = MOST_STEPS - 1;
        }

        void takeStepBack() {
            if (stepCount == 0) {
                return;
            }
            stepCount--;
            textSize = stepSizes[stepCount];
            System.arraycopy(steps, stepCount * MOST_SIGNS, text, 0, textSize);
        }

        int likedPairs() {
            int sum = 0;
            for (int one = 0; one < LETTERS; one++) {
                sum += Integer.bitCount(liked[one]);
            }
            return sum;
        }

        /** GOOD of a row that is as long as the text. */
        int likedIn(int[] row) {
            int sum = 0;
            for (int i = 1; i < textSize; i++) {
                sum += (liked[row[i - 1]] >> row[i]) & 1;
            }
            return sum;
        }
    }

    /** Sixteen letters at sixteen places, and the place of each. */
    private static final class Square {
        final int[] letters = new int[LETTERS];
        final int[] places = new int[LETTERS];

        void layOut(int[] key, int keySize) {
            int laid = 0;
            int seen = 0;
            for (int i = 0; i < keySize; i++) {
                if (((seen >> key[i]) & 1) == 0) {
                    seen |= 1 << key[i];
                    put(key[i], laid);
                    laid++;
                }
            }
            for (int letter = 0; letter < LETTERS; letter++) {
                if (((seen >> letter) & 1) == 0) {
                    put(letter, laid);
                    laid++;
                }
            }
        }

        private void put(int letter, int place) {
            letters[place] = letter;
            places[letter] = place;
        }

        void exchange(int onePlace, int otherPlace) {
            int one = letters[onePlace];
            put(letters[otherPlace], onePlace);
            put(one, otherPlace);
        }

        int rowOf(int letter) {
            return places[letter] >> 2;
        }

        int columnOf(int letter) {
            return places[letter] & 3;
        }

        int at(int row, int column) {
            return letters[4 * (row & 3) + (column & 3)];
        }

        /** What one of a pair becomes beside the other one; move: 1 to hide, -1 to find. */
        int beside(int one, int other, int move) {
            int row = rowOf(one);
            int column = columnOf(one);
            if (one == other) {
                return at(row + move, column + move);
            }
            if (row == rowOf(other)) {
                return at(row, column + move);
            }
            if (column == columnOf(other)) {
                return at(row + move, column);
            }
            return at(row, columnOf(other));
        }
    }

    /** Hides and finds: what the text becomes stands in made, and the desk stays as it is. */
    private static final class Worker {
        final int[] made = new int[MOST_SIGNS];
        final Square square = new Square();
        final int[] order = new int[MOST_COLUMNS];
        /** Where the letter that is read i-th was written. */
        private final int[] readFrom = new int[MOST_SIGNS];
        private final int[] line = new int[2 * MOST_SIGNS];

        void work(Desk desk, int way, boolean hides) {
            switch (way) {
                case SHIFT:
                    addKey(desk, 1, hides);
                    break;
                case WORD:
                    addKey(desk, desk.keySize, hides);
                    break;
                case PAIRS:
                    square.layOut(desk.key, desk.keySize);
                    changePairs(desk, hides);
                    break;
                case COLUMNS:
                    orderByKey(desk);
                    readColumns(desk.textSize, desk.keySize);
                    putInPlace(desk, hides);
                    break;
                case RAILS:
                    readRails(desk.textSize, desk.keySize);
                    putInPlace(desk, hides);
                    break;
                default:
                    square.layOut(desk.key, desk.keySize);
                    takeApart(desk, hides);
                    break;
            }
        }

        private void addKey(Desk desk, int keyLetters, boolean hides) {
            int next = 0;
            for (int i = 0; i < desk.textSize; i++) {
                int by = hides ? desk.key[next] : -desk.key[next];
                made[i] = (desk.text[i] + by) & (LETTERS - 1);
                next = next + 1 < keyLetters ? next + 1 : 0;
            }
        }

        /** By the square as it lies; a last letter without another one stays out. */
        void changePairs(Desk desk, boolean hides) {
            int move = hides ? 1 : -1;
            for (int i = 1; i < desk.textSize; i += 2) {
                int one = desk.text[i - 1];
                int other = desk.text[i];
                made[i - 1] = square.beside(one, other, move);
                made[i] = square.beside(other, one, move);
            }
        }

        private void orderByKey(Desk desk) {
            int placed = 0;
            for (int letter = 0; letter < LETTERS; letter++) {
                for (int column = 0; column < desk.keySize; column++) {
                    if (desk.key[column] == letter) {
                        order[placed] = column;
                        placed++;
                    }
                }
            }
        }

        void startOrder(int columns) {
            for (int i = 0; i < columns; i++) {
                order[i] = i;
            }
        }

        /** The next order, the lesser numbers first; false if this was the last one. */
        boolean nextOrder(int columns) {
            int rise = columns - 2;
            while (rise >= 0 && order[rise] > order[rise + 1]) {
                rise--;
            }
            if (rise < 0) {
                return false;
            }
            int greater = columns - 1;
            while (greater > rise && order[greater] < order[rise]) {
                greater--;
            }
            swapInOrder(rise, greater);
            int right = columns - 1;
            for (int left = rise + 1; left < right; left++) {
                swapInOrder(left, right);
                right--;
            }
            return true;
        }

        private void swapInOrder(int one, int other) {
            int kept = order[one];
            order[one] = order[other];
            order[other] = kept;
        }

        void readColumns(int size, int columns) {
            int read = 0;
            for (int i = 0; i < columns; i++) {
                for (int place = order[i]; place < size; place += columns) {
                    readFrom[read] = place;
                    read++;
                }
            }
        }

        private void readRails(int size, int lastRail) {
            int read = 0;
            for (int wanted = 0; wanted <= lastRail; wanted++) {
                int rail = 0;
                int move = 1;
                for (int place = 0; place < size; place++) {
                    if (rail == wanted) {
                        readFrom[read] = place;
                        read++;
                    }
                    rail += move;
                    if (rail == 0 || rail == lastRail) {
                        move = -move;
                    }
                }
            }
        }

        void putInPlace(Desk desk, boolean hides) {
            for (int i = 0; i < desk.textSize; i++) {
                if (hides) {
                    made[i] = desk.text[readFrom[i]];
                } else {
                    made[readFrom[i]] = desk.text[i];
                }
            }
        }

        private void takeApart(Desk desk, boolean hides) {
            int size = desk.textSize;
            for (int i = 0; i < size; i++) {
                line[rowPlace(i, hides)] = square.rowOf(desk.text[i]);
                line[columnPlace(i, size, hides)] = square.columnOf(desk.text[i]);
            }
            for (int i = 0; i < size; i++) {
                made[i] = square.at(line[rowPlace(i, !hides)], line[columnPlace(i, size, !hides)]);
            }
        }

        /** Rows stand ahead of all columns where the line is spread, else each beside its column. */
        private static int rowPlace(int i, boolean spread) {
            return spread ? i : 2 * i;
        }

        private static int columnPlace(int i, int size, boolean spread) {
            return spread ? size + i : 2 * i + 1;
        }
    }
}
