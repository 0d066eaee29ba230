import java.util.Arrays;

/**
 * All suffixes of up to eight texts in order, and what follows from that order.
 *
 * Every row is made with the object and used again by each build(), so that no call makes anything.
 */
public final class SuffixRows {
    public static final int NONE = -1;

    private static final int TEXTS = 8;
    private static final int GREATEST_SIGN = 999;
    private static final int MOST_SIGNS = 400;
    private static final int MOST_PLACES = MOST_SIGNS + TEXTS;
    private static final int MOST_IN_PATTERN = 40;
    private static final int GREATEST_DISTANCE = 64;

    /** An END's letter is its text's number, a sign's is moved up by TEXTS: so letters compare as the document asks. */
    private static final int LETTERS = TEXTS + GREATEST_SIGN + 1;

    private final Texts texts;
    private final Whole whole;
    private final Row row;
    private final Copies copies;
    private final Pattern sought;
    private final Stretches stretches;
    private final Draft draft;

    public SuffixRows() {
        texts = new Texts();
        whole = new Whole();
        row = new Row(whole);
        copies = new Copies(whole, row);
        sought = new Pattern(whole, row);
        stretches = new Stretches(whole, row);
        draft = new Draft(whole, row);
    }

    public int add(int text, int a, int b, int c, int d) {
        int more = countSigns(a, b, c, d);
        if (!isText(text) || more == NONE || texts.total + more > MOST_SIGNS) {
            return NONE;
        }
        texts.append(text, a);
        texts.append(text, b);
        texts.append(text, c);
        texts.append(text, d);
        return texts.counts[text];
    }

    public int cut(int text, int n) {
        if (!isText(text) || n < 0 || n > texts.counts[text]) {
            return NONE;
        }
        texts.dropLast(text, n);
        return texts.counts[text];
    }

    public int build() {
        whole.lay(texts);
        row.make();
        copies.make();
        draft.reset();
        return whole.size;
    }

    public int sign(int p) {
        return whole.has(p) ? whole.shown(p) : NONE;
    }

    public int text(int p, int what) {
        if (!whole.has(p) || what < 0 || what > 1) {
            return NONE;
        }
        int text = whole.textAt[p];
        return what == 0 ? text : p - whole.starts[text];
    }

    public int at(int i) {
        return whole.has(i) ? row.places[i] : NONE;
    }

    public int rank(int p) {
        return whole.has(p) ? row.ranks[p] : NONE;
    }

    public int beside(int i) {
        return whole.has(i) ? row.besides[i] : NONE;
    }

    public int common(int p, int q) {
        if (!whole.has(p) || !whole.has(q)) {
            return NONE;
        }
        return p == q ? whole.signsFrom(p) : whole.alikeFrom(p, q, 0);
    }

    public int copy(int p, int what) {
        if (!whole.has(p)) {
            return NONE;
        }
        switch (what) {
            case 0:
                return copies.places[p];
            case 1:
                return copies.lengths[p];
            case 2:
                return copies.pieces[p];
            default:
                return NONE;
        }
    }

    public int pattern(int a, int b, int c, int d) {
        int more = countSigns(a, b, c, d);
        if (more == NONE || sought.count + more > MOST_IN_PATTERN) {
            return NONE;
        }
        sought.append(a);
        sought.append(b);
        sought.append(c);
        sought.append(d);
        return sought.count;
    }

    public int wipe() {
        int had = sought.count;
        sought.count = 0;
        return had;
    }

    public int find(int what) {
        int from = sought.firstReaching(0);
        int to = sought.firstReaching(1);
        switch (what) {
            case 0:
                return to - from;
            case 1:
                return from;
            case 2:
                return row.countTexts(from, to);
            case 3:
                return row.leastPlace(from, to);
            case 4:
                return row.greatestPlace(from, to);
            case 5:
                return sought.longestBeginning(from);
            default:
                return NONE;
        }
    }

    public int where(int k) {
        return k < 0 ? NONE : sought.placeOf(k);
    }

    public long different() {
        return stretches.countAll();
    }

    public int repeats(int n, int m) {
        if (n < 1 || m < 1 || m > MOST_PLACES) {
            return NONE;
        }
        return stretches.countStanding(n, m);
    }

    public int longest(int m, int what) {
        if (m < 2 || m > MOST_PLACES || what < 0 || what > 2) {
            return NONE;
        }
        return stretches.tellLongest(m, false, what);
    }

    public int shared(int m, int what) {
        if (m < 1 || m > TEXTS || what < 0 || what > 3) {
            return NONE;
        }
        return stretches.tellLongest(m, true, what);
    }

    public int before(int i) {
        return whole.has(i) ? whole.shown(whole.previous(row.places[i])) : NONE;
    }

    public int back(int i) {
        return whole.has(i) ? row.ranks[whole.previous(row.places[i])] : NONE;
    }

    public int steps(int i, int e) {
        if (!whole.has(i) || e < 1 || e > GREATEST_DISTANCE) {
            return NONE;
        }
        // PLACE 0 is KEPT at every distance, so the walk never goes round to the last one.
        return row.places[i] % e;
    }

    public int swap(int i, int j) {
        if (!whole.has(i) || !whole.has(j)) {
            return NONE;
        }
        int other = draft.replace(j, draft.numbers[i]);
        draft.replace(i, other);
        return 1;
    }

    public int tell(int i, int v) {
        return whole.has(i) ? draft.replace(i, v) : NONE;
    }

    public int judge() {
        return draft.firstWrong();
    }

    private static boolean isText(int text) {
        return text >= 0 && text < TEXTS;
    }

    /** How many of the four are signs; NONE if one is neither a sign nor NONE. */
    private static int countSigns(int a, int b, int c, int d) {
        if (!isSignOrNone(a) || !isSignOrNone(b) || !isSignOrNone(c) || !isSignOrNone(d)) {
            return NONE;
        }
        return oneIfSign(a) + oneIfSign(b) + oneIfSign(c) + oneIfSign(d);
    }

    private static boolean isSignOrNone(int sign) {
        return sign >= NONE && sign <= GREATEST_SIGN;
    }

    private static int oneIfSign(int sign) {
        return sign == NONE ? 0 : 1;
    }

    /** The signs of all texts; in one row, because only their sum has a limit. */
    private static final class Texts {
        final int[] signs = new int[MOST_SIGNS];
        final int[] counts = new int[TEXTS];
        int total;

        int endOf(int text) {
            int end = 0;
            for (int t = 0; t <= text; t++) {
                end += counts[t];
            }
            return end;
        }

        void append(int text, int sign) {
            if (sign == NONE || total >= MOST_SIGNS) {
                return;
            }
            int end = endOf(text);
            System.arraycopy(signs, end, signs, end + 1, total - end);
            signs[end] = sign;
            counts[text]++;
            total++;
        }

        void dropLast(int text, int n) {
            int end = endOf(text);
            System.arraycopy(signs, end, signs, end - n, total - end);
            counts[text] -= n;
            total -= n;
        }
    }

    /** The texts that are not empty, as they were at the latest build(), each with its END. */
    private static final class Whole {
        final int[] letters = new int[MOST_PLACES];
        final int[] textAt = new int[MOST_PLACES];
        final int[] starts = new int[TEXTS];
        final int[] ends = new int[TEXTS];
        int size;

        void lay(Texts texts) {
            size = 0;
            int next = 0;
            for (int text = 0; text < TEXTS; text++) {
                starts[text] = size;
                for (int k = 0; k < texts.counts[text]; k++) {
                    layLetter(text, texts.signs[next] + TEXTS);
                    next++;
                }
                ends[text] = size;
                if (texts.counts[text] > 0) {
                    layLetter(text, text);
                }
            }
        }

        private void layLetter(int text, int letter) {
            letters[size] = letter;
            textAt[size] = text;
            size++;
        }

        /** Also for numbers in the row and in the draft: they are as many as the places. */
        boolean has(int p) {
            return p >= 0 && p < size;
        }

        boolean isEnd(int p) {
            return letters[p] < TEXTS;
        }

        int shown(int p) {
            return isEnd(p) ? -2 - letters[p] : letters[p] - TEXTS;
        }

        int signsFrom(int p) {
            return ends[textAt[p]] - p;
        }

        int previous(int p) {
            return p == 0 ? size - 1 : p - 1;
        }

        /** COMMON of two different places, of which so many signs are known; an END is like no other, so it stops. */
        int alikeFrom(int p, int q, int known) {
            int alike = known;
            while (p + alike < size && q + alike < size && letters[p + alike] == letters[q + alike]) {
                alike++;
            }
            return alike;
        }
    }

    /** THE ROW, where each place is in it, and what neighbours in it have in common. */
    private static final class Row {
        final int[] places = new int[MOST_PLACES];
        final int[] ranks = new int[MOST_PLACES];
        final int[] besides = new int[MOST_PLACES];
        private final Whole whole;
        private final Sorter sorter = new Sorter();

        Row(Whole whole) {
            this.whole = whole;
        }

        void make() {
            sorter.sort(whole.letters, whole.size);
            System.arraycopy(sorter.order, 0, places, 0, whole.size);
            for (int i = 0; i < whole.size; i++) {
                ranks[places[i]] = i;
            }
            measureBesides();
        }

        /** By place, not by rank: without its first sign a suffix keeps all but one of what it had in common. */
        private void measureBesides() {
            int alike = 0;
            for (int p = 0; p < whole.size; p++) {
                int i = ranks[p];
                alike = i == 0 ? 0 : whole.alikeFrom(p, places[i - 1], alike);
                besides[i] = alike;
                if (alike > 0) {
                    alike--;
                }
            }
        }

        int countTexts(int from, int to) {
            int seen = 0;
            for (int i = from; i < to; i++) {
                seen |= 1 << whole.textAt[places[i]];
            }
            return Integer.bitCount(seen);
        }

        int leastPlace(int from, int to) {
            int least = NONE;
            for (int i = from; i < to; i++) {
                if (least == NONE || places[i] < least) {
                    least = places[i];
                }
            }
            return least;
        }

        int greatestPlace(int from, int to) {
            int greatest = NONE;
            for (int i = from; i < to; i++) {
                greatest = Math.max(greatest, places[i]);
            }
            return greatest;
        }
    }

    /**
     * Sorts suffixes by induction (SA-IS), in steps that grow as the letters do.
     *
     * A suffix that is less than the one behind it rises, any other falls; a place that rises behind one that falls
     * is a turn. Turns are sorted as suffixes of a shorter row of letters, the next level, in which each letter names
     * the piece from one turn to the next; all other suffixes follow from the turns.
     */
    private static final class Sorter {
        /** A level has less than half as many letters as the one above: 408, 203, 101, 50, 24, 11, 5, 2, 0. */
        private static final int LEVELS = 10;
        private static final int ALL_LEVELS = 2 * MOST_PLACES;

        final int[] order = new int[MOST_PLACES];
        private final int[] letters = new int[ALL_LEVELS];
        private final boolean[] rises = new boolean[ALL_LEVELS];
        /** Beside each letter of a lower level: the turn in the level above whose piece it names. */
        private final int[] turns = new int[ALL_LEVELS];
        private final int[] bases = new int[LEVELS + 1];
        private final int[] sizes = new int[LEVELS + 1];
        private final int[] kinds = new int[LEVELS + 1];
        private final int[] seeds = new int[MOST_PLACES];
        private final int[] names = new int[MOST_PLACES];
        private final int[] starts = new int[LETTERS + 1];
        private final int[] cursors = new int[LETTERS];

        void sort(int[] source, int size) {
            System.arraycopy(source, 0, letters, 0, size);
            bases[0] = 0;
            sizes[0] = size;
            kinds[0] = LETTERS;
            int level = 0;
            makeLevelBelow(0);
            while (level + 1 < LEVELS && kinds[level + 1] < sizes[level + 1]) {
                level++;
                makeLevelBelow(level);
            }
            orderByNames(level + 1);
            while (level >= 0) {
                orderFromBelow(level);
                level--;
            }
        }

        private void makeLevelBelow(int level) {
            markRises(level);
            int below = bases[level] + sizes[level];
            int found = collectTurns(level, below);
            System.arraycopy(turns, below, seeds, 0, found);
            induce(level, found);
            bases[level + 1] = below;
            sizes[level + 1] = found;
            kinds[level + 1] = namePieces(level);
            for (int k = 0; k < found; k++) {
                letters[below + k] = names[turns[below + k]];
            }
        }

        private void markRises(int level) {
            int base = bases[level];
            boolean rising = false;
            for (int p = sizes[level] - 1; p >= 0; p--) {
                // Behind the last place there is nothing, which is less than all: the last one falls.
                if (p + 1 < sizes[level] && letters[base + p] != letters[base + p + 1]) {
                    rising = letters[base + p] < letters[base + p + 1];
                }
                rises[base + p] = rising;
            }
        }

        private int collectTurns(int level, int below) {
            int found = 0;
            for (int p = 1; p < sizes[level]; p++) {
                if (isTurn(level, p)) {
                    turns[below + found] = p;
                    found++;
                }
            }
            return found;
        }

        private boolean isTurn(int level, int p) {
            int base = bases[level];
            return p > 0 && rises[base + p] && !rises[base + p - 1];
        }

        /** Names the pieces in the order that was induced, alike ones alike: how many names there are. */
        private int namePieces(int level) {
            int named = 0;
            int last = NONE;
            for (int i = 0; i < sizes[level]; i++) {
                int p = order[i];
                if (isTurn(level, p)) {
                    if (last == NONE || !isSamePiece(level, last, p)) {
                        named++;
                    }
                    names[p] = named - 1;
                    last = p;
                }
            }
            return named;
        }

        /** A piece has the turn that ends it, too; one that comes to the end of the level is like no other. */
        private boolean isSamePiece(int level, int p, int q) {
            int base = bases[level];
            for (int k = 0; p + k < sizes[level] && q + k < sizes[level]; k++) {
                if (letters[base + p + k] != letters[base + q + k]) {
                    return false;
                }
                boolean ends = isTurn(level, p + k);
                if (ends != isTurn(level, q + k)) {
                    return false;
                }
                if (ends && k > 0) {
                    return true;
                }
            }
            return false;
        }

        /** The order of a level whose letters are all different. */
        private void orderByNames(int level) {
            for (int k = 0; k < sizes[level]; k++) {
                order[letters[bases[level] + k]] = k;
            }
        }

        private void orderFromBelow(int level) {
            int found = sizes[level + 1];
            for (int k = 0; k < found; k++) {
                seeds[k] = turns[bases[level + 1] + order[k]];
            }
            induce(level, found);
        }

        /** Orders all places of a level by the order of the first so many seeds, which are its turns. */
        private void induce(int level, int found) {
            countLetters(level);
            Arrays.fill(order, 0, sizes[level], NONE);
            putSeeds(level, found);
            induceFalling(level);
            induceRising(level);
        }

        private void countLetters(int level) {
            Arrays.fill(starts, 0, kinds[level] + 1, 0);
            for (int p = 0; p < sizes[level]; p++) {
                starts[letters[bases[level] + p] + 1]++;
            }
            for (int letter = 0; letter < kinds[level]; letter++) {
                starts[letter + 1] += starts[letter];
            }
        }

        private void putSeeds(int level, int found) {
            System.arraycopy(starts, 1, cursors, 0, kinds[level]);
            for (int k = found - 1; k >= 0; k--) {
                putLast(level, seeds[k]);
            }
        }

        private void induceFalling(int level) {
            System.arraycopy(starts, 0, cursors, 0, kinds[level]);
            if (sizes[level] > 0) {
                putFirst(level, sizes[level] - 1);
            }
            for (int i = 0; i < sizes[level]; i++) {
                int p = order[i] - 1;
                if (p >= 0 && !rises[bases[level] + p]) {
                    putFirst(level, p);
                }
            }
        }

        /** Writes over the seeds: a place that rises is put before the walk comes to where it stands. */
        private void induceRising(int level) {
            System.arraycopy(starts, 1, cursors, 0, kinds[level]);
            for (int i = sizes[level] - 1; i >= 0; i--) {
                int p = order[i] - 1;
                if (p >= 0 && rises[bases[level] + p]) {
                    putLast(level, p);
                }
            }
        }

        private void putFirst(int level, int p) {
            int letter = letters[bases[level] + p];
            int slot = cursors[letter];
            if (slot < order.length) {
                order[slot] = p;
                cursors[letter] = slot + 1;
            }
        }

        private void putLast(int level, int p) {
            int letter = letters[bases[level] + p];
            int slot = cursors[letter] - 1;
            if (slot >= 0) {
                order[slot] = p;
                cursors[letter] = slot;
            }
        }
    }

    /** THE COPY of each place, its length, and the pieces from each place on. */
    private static final class Copies {
        final int[] places = new int[MOST_PLACES];
        final int[] lengths = new int[MOST_PLACES];
        final int[] pieces = new int[MOST_PLACES];
        private final Whole whole;
        private final Row row;
        /** A chain through the row: the rank above and below each, and what it has in common with that above. */
        private final int[] above = new int[MOST_PLACES];
        private final int[] below = new int[MOST_PLACES];
        private final int[] alike = new int[MOST_PLACES];

        Copies(Whole whole, Row row) {
            this.whole = whole;
            this.row = row;
        }

        void make() {
            chainAll();
            for (int p = whole.size - 1; p >= 0; p--) {
                takeLongest(p);
                unchain(row.ranks[p]);
            }
            for (int p = 0; p < whole.size; p++) {
                places[p] = leastLike(p);
            }
            countPieces();
        }

        private void chainAll() {
            for (int i = 0; i < whole.size; i++) {
                above[i] = i - 1;
                below[i] = i + 1 < whole.size ? i + 1 : NONE;
                alike[i] = row.besides[i];
            }
        }

        /** While the chain has no place behind p, the longest copy is one of p's neighbours in it. */
        private void takeLongest(int p) {
            int i = row.ranks[p];
            int withAbove = above[i] == NONE ? 0 : alike[i];
            int withBelow = below[i] == NONE ? 0 : alike[below[i]];
            lengths[p] = Math.max(withAbove, withBelow);
            if (lengths[p] == 0) {
                places[p] = NONE;
            } else {
                places[p] = row.places[withAbove >= withBelow ? above[i] : below[i]];
            }
        }

        private void unchain(int i) {
            if (above[i] != NONE) {
                below[above[i]] = below[i];
            }
            if (below[i] != NONE) {
                above[below[i]] = above[i];
                alike[below[i]] = Math.min(alike[i], alike[below[i]]);
            }
        }

        /** From copy to copy while they are long enough: the last one has no such copy before it, so is the least. */
        private int leastLike(int p) {
            int least = places[p];
            for (int hops = 0; hops < p && least != NONE && lengths[least] >= lengths[p]; hops++) {
                least = places[least];
            }
            return least;
        }

        private void countPieces() {
            for (int p = whole.size - 1; p >= 0; p--) {
                int next = p + Math.max(1, lengths[p]);
                pieces[p] = whole.isEnd(p) || next >= whole.size ? 0 : 1 + pieces[next];
            }
        }
    }

    /** THE PATTERN, as letters, and where it stands in the row. */
    private static final class Pattern {
        private final int[] letters = new int[MOST_IN_PATTERN];
        private final Whole whole;
        private final Row row;
        int count;

        Pattern(Whole whole, Row row) {
            this.whole = whole;
            this.row = row;
        }

        void append(int sign) {
            if (sign == NONE || count >= MOST_IN_PATTERN) {
                return;
            }
            letters[count] = sign + TEXTS;
            count++;
        }

        /** Where in the row the first suffix is that begins with the pattern or is greater (0), that is greater (1). */
        int firstReaching(int side) {
            int low = 0;
            int high = whole.size;
            while (low < high) {
                int middle = (low + high) / 2;
                if (sideOf(row.places[middle]) < side) {
                    low = middle + 1;
                } else {
                    high = middle;
                }
            }
            return low;
        }

        /** -1, 0, 1: the place's suffix is less than the pattern, begins with it, is greater. */
        private int sideOf(int place) {
            int alike = alikeAt(place);
            if (alike == count) {
                return 0;
            }
            if (place + alike >= whole.size || whole.letters[place + alike] < letters[alike]) {
                return -1;
            }
            return 1;
        }

        private int alikeAt(int place) {
            int alike = 0;
            while (alike < count && place + alike < whole.size && whole.letters[place + alike] == letters[alike]) {
                alike++;
            }
            return alike;
        }

        /** The suffix that is most like the pattern is beside where the pattern is or would be. */
        int longestBeginning(int from) {
            int best = 0;
            if (from > 0) {
                best = alikeAt(row.places[from - 1]);
            }
            if (from < whole.size) {
                best = Math.max(best, alikeAt(row.places[from]));
            }
            return best;
        }

        /** The k-th place, by size, where the pattern stands. */
        int placeOf(int k) {
            int from = firstReaching(0);
            int to = firstReaching(1);
            int left = k;
            for (int p = 0; p < whole.size; p++) {
                if (row.ranks[p] >= from && row.ranks[p] < to) {
                    if (left == 0) {
                        return p;
                    }
                    left--;
                }
            }
            return NONE;
        }
    }

    /** Stretches: each is a run of neighbours in the row that have at least its length in common. */
    private static final class Stretches {
        private final Whole whole;
        private final Row row;

        Stretches(Whole whole, Row row) {
            this.whole = whole;
            this.row = row;
        }

        /** Each beginning of a suffix is a stretch; those that the suffix above has too were counted there. */
        long countAll() {
            long all = 0;
            for (int i = 0; i < whole.size; i++) {
                all += whole.signsFrom(row.places[i]) - row.besides[i];
            }
            return all;
        }

        int countStanding(int length, int least) {
            int found = 0;
            int from = 0;
            for (int to = 1; to <= whole.size; to++) {
                if (isRunEnd(to, length)) {
                    if (isEnough(from, to, length, least, false)) {
                        found++;
                    }
                    from = to;
                }
            }
            return found;
        }

        /** Of the first longest stretch that stands at (or in) so many places (or texts): what is asked. */
        int tellLongest(int least, boolean inTexts, int what) {
            int length = longestLength(least, inTexts);
            if (what == 0) {
                return length;
            }
            if (length == 0) {
                return NONE;
            }
            int to = firstRunEnd(length, least, inTexts);
            int from = runStart(to, length);
            if (what == 1) {
                return row.leastPlace(from, to);
            }
            return what == 2 ? to - from : row.countTexts(from, to);
        }

        /** By halves: where a stretch stands, all its beginnings stand too. */
        private int longestLength(int least, boolean inTexts) {
            int low = 0;
            int high = whole.size;
            while (low < high) {
                int middle = (low + high + 1) / 2;
                if (firstRunEnd(middle, least, inTexts) != NONE) {
                    low = middle;
                } else {
                    high = middle - 1;
                }
            }
            return low;
        }

        /** Where the first run that has enough places or texts ends; NONE if none has. */
        private int firstRunEnd(int length, int least, boolean inTexts) {
            int from = 0;
            for (int to = 1; to <= whole.size; to++) {
                if (isRunEnd(to, length)) {
                    if (isEnough(from, to, length, least, inTexts)) {
                        return to;
                    }
                    from = to;
                }
            }
            return NONE;
        }

        private int runStart(int to, int length) {
            int from = to - 1;
            while (from > 0 && row.besides[from] >= length) {
                from--;
            }
            return from;
        }

        private boolean isRunEnd(int to, int length) {
            return to == whole.size || row.besides[to] < length;
        }

        /** A suffix that is shorter than the length is a run by itself, but of no stretch. */
        private boolean isEnough(int from, int to, int length, int least, boolean inTexts) {
            if (whole.signsFrom(row.places[from]) < length) {
                return false;
            }
            return (inTexts ? row.countTexts(from, to) : to - from) >= least;
        }
    }

    /** THE DRAFT: the row as others tell it. */
    private static final class Draft {
        final int[] numbers = new int[MOST_PLACES];
        private final Whole whole;
        private final Row row;

        Draft(Whole whole, Row row) {
            this.whole = whole;
            this.row = row;
        }

        void reset() {
            System.arraycopy(row.places, 0, numbers, 0, whole.size);
        }

        int replace(int i, int number) {
            int was = numbers[i];
            numbers[i] = number;
            return was;
        }

        /** Ranks that rise are of places each told once, so nothing else is to be looked at. */
        int firstWrong() {
            int last = NONE;
            for (int i = 0; i < whole.size; i++) {
                int place = numbers[i];
                if (!whole.has(place) || row.ranks[place] <= last) {
                    return i;
                }
                last = row.ranks[place];
            }
            return whole.size;
        }
    }
}
