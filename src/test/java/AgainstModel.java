import java.util.ArrayList;
import java.util.Arrays;
import java.util.Comparator;
import java.util.HashMap;
import java.util.List;
import java.util.Map;
import java.util.Random;
import java.util.TreeSet;

/**
 * Long runs of calls on SuffixRows and on a model that does what the document's words say, with no thought for speed.
 *
 * The runs are drawn from fixed seeds, so that a fault comes again.
 */
public final class AgainstModel {
    private static final int NONE = -1;
    private static final int CALLS = 512;
    private static int answers = 0;
    private static int wrong = 0;

    public static void main(String[] args) {
        for (int seed = 0; seed < 1500; seed++) {
            run(seed, 30, 1 + seed % 5);
        }
        for (int seed = 10000; seed < 10060; seed++) {
            int[] kinds = {1, 2, 3, 1000};
            run(seed, 400, kinds[seed % 4]);
        }
        for (int shape = 0; shape < 6; shape++) {
            patternedRow(shape);
        }
        System.out.println(answers + " answers looked at, " + wrong + " not as due");
        if (wrong != 0) {
            System.exit(1);
        }
    }

    private static void due(String call, long got, long want) {
        answers++;
        if (got != want) {
            wrong++;
            if (wrong < 50) {
                System.out.println(call + " answered " + got + ", due is " + want);
            }
        }
    }

    /** One object's 512 calls: signs first, then whatever comes. */
    private static void run(int seed, int signs, int kinds) {
        Random random = new Random(seed);
        SuffixRows x = new SuffixRows();
        Model model = new Model();
        int adds = signs / 4 + 1;
        int texts = 1 + random.nextInt(8);
        for (int k = 0; k < CALLS; k++) {
            int choice = k < adds ? 0 : k == adds ? 2 : random.nextInt(26);
            call(seed + " call " + k + ": ", choice, random, kinds, texts, x, model);
        }
    }

    private static int sign(Random random, int kinds) {
        int n = random.nextInt(60);
        if (n == 0) {
            return random.nextBoolean() ? 1000 : -2;
        }
        return n < 6 ? NONE : random.nextInt(kinds);
    }

    private static int index(Random random, Model model) {
        return random.nextInt(model.size() + 3) - 1;
    }

    private static void call(String at, int choice, Random random, int kinds, int texts, SuffixRows x, Model model) {
        int a = sign(random, kinds);
        int b = sign(random, kinds);
        int c = sign(random, kinds);
        int d = sign(random, kinds);
        int i = index(random, model);
        int j = index(random, model);
        int text = random.nextInt(40) == 0 ? random.nextInt(20) - 10 : random.nextInt(texts);
        int what = random.nextInt(8) - 1;
        switch (choice) {
            case 0 -> due(at + "add", x.add(text, a, b, c, d), model.add(text, a, b, c, d));
            case 1 -> {
                int n = random.nextInt(6) - 1;
                due(at + "cut", x.cut(text, n), model.cut(text, n));
            }
            case 2 -> due(at + "build", x.build(), model.build());
            case 3 -> due(at + "sign", x.sign(i), model.sign(i));
            case 4 -> due(at + "text", x.text(i, what), model.text(i, what));
            case 5 -> due(at + "at", x.at(i), model.at(i));
            case 6 -> due(at + "rank", x.rank(i), model.rank(i));
            case 7 -> due(at + "beside", x.beside(i), model.beside(i));
            case 8 -> due(at + "common", x.common(i, j), model.common(i, j));
            case 9, 10 -> due(at + "copy", x.copy(i, what), model.copy(i, what));
            case 11 -> due(at + "pattern", x.pattern(a, b, NONE, NONE), model.pattern(a, b, NONE, NONE));
            case 12 -> due(at + "wipe", x.wipe(), model.wipe());
            case 13 -> takePattern(at, random, x, model);
            case 14 -> due(at + "find", x.find(what), model.find(what));
            case 15 -> due(at + "where", x.where(i), model.where(i));
            case 16 -> due(at + "different", x.different(), model.different());
            case 17 -> {
                int n = random.nextInt(8);
                int m = random.nextInt(50) == 0 ? 409 : random.nextInt(7);
                due(at + "repeats", x.repeats(n, m), model.repeats(n, m));
            }
            case 18 -> {
                int m = random.nextInt(20) == 0 ? 400 + random.nextInt(12) : random.nextInt(9);
                due(at + "longest", x.longest(m, what), model.longest(m, what));
            }
            case 19 -> {
                int m = random.nextInt(10);
                due(at + "shared", x.shared(m, what), model.shared(m, what));
            }
            case 20 -> due(at + "before", x.before(i), model.before(i));
            case 21 -> due(at + "back", x.back(i), model.back(i));
            case 22 -> {
                int e = random.nextInt(68) - 1;
                due(at + "steps", x.steps(i, e), model.steps(i, e));
            }
            case 23 -> due(at + "swap", x.swap(i, j), model.swap(i, j));
            case 24 -> {
                int v = random.nextInt(3) == 0 ? model.at(i) : j;
                due(at + "tell", x.tell(i, v), model.tell(i, v));
            }
            default -> due(at + "judge", x.judge(), model.judge());
        }
    }

    /** A pattern that stands somewhere, or nearly so: random ones seldom do. */
    private static void takePattern(String at, Random random, SuffixRows x, Model model) {
        due(at + "wipe", x.wipe(), model.wipe());
        int p = random.nextInt(model.size() + 1);
        int length = random.nextInt(random.nextInt(4) == 0 ? 40 : 5);
        for (int k = 0; k < length && model.sign(p + k) >= 0; k++) {
            int sign = model.sign(p + k);
            due(at + "pattern", x.pattern(sign, NONE, NONE, NONE), model.pattern(sign, NONE, NONE, NONE));
        }
    }

    /** Full texts of shapes that random ones never have: all of the row, and the copies, looked at. */
    private static void patternedRow(int shape) {
        SuffixRows x = new SuffixRows();
        Model model = new Model();
        for (int k = 0; k < 400; k++) {
            int text = shape == 5 ? k / 50 : k < 133 ? 0 : 6;
            int sign = shapedSign(shape, k);
            due("add", x.add(text, sign, NONE, NONE, NONE), model.add(text, sign, NONE, NONE, NONE));
        }
        due("build", x.build(), model.build());
        for (int i = 0; i < model.size(); i++) {
            due("shape " + shape + " at " + i, x.at(i), model.at(i));
            due("shape " + shape + " rank " + i, x.rank(i), model.rank(i));
            due("shape " + shape + " beside " + i, x.beside(i), model.beside(i));
            for (int what = 0; what < 3; what++) {
                due("shape " + shape + " copy " + i, x.copy(i, what), model.copy(i, what));
            }
        }
        due("shape " + shape + " different", x.different(), model.different());
        for (int what = 0; what < 4; what++) {
            due("shape " + shape + " longest", x.longest(2, what), model.longest(2, what));
            due("shape " + shape + " shared", x.shared(2, what), model.shared(2, what));
        }
    }

    private static int shapedSign(int shape, int k) {
        switch (shape) {
            case 0:
                return fibonacciSign(k);
            case 1:
                return Integer.bitCount(k) % 2;
            case 2:
                return Integer.numberOfTrailingZeros(k + 1);
            case 3:
                return 999 - k;
            case 4:
                return k % 2 == 0 ? k % 7 : 999;
            default:
                return k % 50 % 10;
        }
    }

    private static int fibonacciSign(int k) {
        String shorter = "1";
        String word = "0";
        while (word.length() <= k) {
            String longer = word + shorter;
            shorter = word;
            word = longer;
        }
        return word.charAt(k) - '0';
    }

    /** The document, word by word. */
    private static final class Model {
        private final List<List<Integer>> texts = new ArrayList<>();
        private final List<Integer> pattern = new ArrayList<>();
        private final List<Integer> whole = new ArrayList<>();
        private final List<Integer> textAt = new ArrayList<>();
        private List<Integer> row = new ArrayList<>();
        private int[] draft = new int[0];
        private final Map<Integer, Map<List<Integer>, List<Integer>>> stretches = new HashMap<>();
        private final Map<Integer, int[]> copies = new HashMap<>();

        Model() {
            for (int t = 0; t < 8; t++) {
                texts.add(new ArrayList<>());
            }
        }

        int size() {
            return whole.size();
        }

        private boolean has(int p) {
            return 0 <= p && p < size();
        }

        private static List<Integer> signsOf(int... told) {
            List<Integer> signs = new ArrayList<>();
            for (int sign : told) {
                if (sign < -1 || sign > 999) {
                    return null;
                }
                if (sign != NONE) {
                    signs.add(sign);
                }
            }
            return signs;
        }

        int add(int text, int a, int b, int c, int d) {
            List<Integer> signs = signsOf(a, b, c, d);
            int all = 0;
            for (List<Integer> one : texts) {
                all += one.size();
            }
            if (text < 0 || text > 7 || signs == null || all + signs.size() > 400) {
                return NONE;
            }
            texts.get(text).addAll(signs);
            return texts.get(text).size();
        }

        int cut(int text, int n) {
            if (text < 0 || text > 7 || n < 0 || n > texts.get(text).size()) {
                return NONE;
            }
            List<Integer> signs = texts.get(text);
            signs.subList(signs.size() - n, signs.size()).clear();
            return signs.size();
        }

        int build() {
            whole.clear();
            textAt.clear();
            stretches.clear();
            copies.clear();
            for (int t = 0; t < 8; t++) {
                if (!texts.get(t).isEmpty()) {
                    whole.addAll(texts.get(t));
                    whole.add(-2 - t);
                }
                while (textAt.size() < whole.size()) {
                    textAt.add(t);
                }
            }
            row = new ArrayList<>();
            for (int p = 0; p < size(); p++) {
                row.add(p);
            }
            row.sort(Comparator.comparing(this::suffix, Arrays::compare));
            draft = row.stream().mapToInt(p -> p).toArray();
            return size();
        }

        /** To the next END and it too; ENDS below all SIGNS, the first one least. */
        private int[] suffix(int p) {
            int end = p;
            while (whole.get(end) >= 0) {
                end++;
            }
            int[] suffix = new int[end - p + 1];
            for (int k = 0; k < suffix.length; k++) {
                suffix[k] = p + k < end ? whole.get(p + k) : end - 1000;
            }
            return suffix;
        }

        int sign(int p) {
            return has(p) ? whole.get(p) : NONE;
        }

        int text(int p, int what) {
            if (!has(p) || what < 0 || what > 1) {
                return NONE;
            }
            return what == 0 ? textAt.get(p) : p - textAt.indexOf(textAt.get(p));
        }

        int at(int i) {
            return has(i) ? row.get(i) : NONE;
        }

        int rank(int p) {
            return has(p) ? row.indexOf(p) : NONE;
        }

        int beside(int i) {
            if (!has(i)) {
                return NONE;
            }
            return i == 0 ? 0 : common(row.get(i), row.get(i - 1));
        }

        int common(int p, int q) {
            if (!has(p) || !has(q)) {
                return NONE;
            }
            int k = 0;
            while (whole.get(p + k) >= 0 && whole.get(p + k).equals(whole.get(q + k))) {
                k++;
            }
            return k;
        }

        int copy(int p, int what) {
            if (!has(p) || what < 0 || what > 2) {
                return NONE;
            }
            return copies.computeIfAbsent(p, this::copyOf)[what];
        }

        private int[] copyOf(int p) {
            int pieces = 0;
            for (int at = p; whole.get(at) >= 0; at += Math.max(1, longestBefore(at)[1])) {
                pieces++;
            }
            int[] best = longestBefore(p);
            return new int[] {best[0], best[1], pieces};
        }

        private int[] longestBefore(int p) {
            int[] best = {NONE, 0};
            for (int q = 0; q < p; q++) {
                if (common(p, q) > best[1]) {
                    best = new int[] {q, common(p, q)};
                }
            }
            return best;
        }

        int pattern(int a, int b, int c, int d) {
            List<Integer> signs = signsOf(a, b, c, d);
            if (signs == null || pattern.size() + signs.size() > 40) {
                return NONE;
            }
            pattern.addAll(signs);
            return pattern.size();
        }

        int wipe() {
            int had = pattern.size();
            pattern.clear();
            return had;
        }

        private boolean stands(List<Integer> signs, int p) {
            return p + signs.size() <= size() && whole.subList(p, p + signs.size()).equals(signs);
        }

        private List<Integer> standing(List<Integer> signs) {
            List<Integer> places = new ArrayList<>();
            for (int p = 0; p < size(); p++) {
                if (stands(signs, p)) {
                    places.add(p);
                }
            }
            return places;
        }

        private int textsOf(List<Integer> places) {
            TreeSet<Integer> in = new TreeSet<>();
            for (int p : places) {
                in.add(textAt.get(p));
            }
            return in.size();
        }

        private int whereInRow() {
            int[] signs = pattern.stream().mapToInt(s -> s).toArray();
            int less = 0;
            for (int p = 0; p < size(); p++) {
                if (!stands(pattern, p) && Arrays.compare(suffix(p), signs) < 0) {
                    less++;
                }
            }
            return less;
        }

        int find(int what) {
            List<Integer> places = standing(pattern);
            switch (what) {
                case 0:
                    return places.size();
                case 1:
                    return whereInRow();
                case 2:
                    return textsOf(places);
                case 3:
                    return places.isEmpty() ? NONE : places.get(0);
                case 4:
                    return places.isEmpty() ? NONE : places.get(places.size() - 1);
                case 5:
                    int longest = pattern.size();
                    while (longest > 0 && standing(pattern.subList(0, longest)).isEmpty()) {
                        longest--;
                    }
                    return longest;
                default:
                    return NONE;
            }
        }

        int where(int k) {
            List<Integer> places = standing(pattern);
            return k < 0 || k >= places.size() ? NONE : places.get(k);
        }

        /** All stretches of a length, each with the places where it stands. */
        private Map<List<Integer>, List<Integer>> stretchesOf(int length) {
            return stretches.computeIfAbsent(length, n -> {
                Map<List<Integer>, List<Integer>> all = new HashMap<>();
                for (int p = 0; p + n <= size(); p++) {
                    List<Integer> signs = new ArrayList<>(whole.subList(p, p + n));
                    boolean hasEnd = signs.stream().anyMatch(s -> s < 0);
                    if (!hasEnd) {
                        all.computeIfAbsent(signs, s -> new ArrayList<>()).add(p);
                    }
                }
                return all;
            });
        }

        long different() {
            long all = 0;
            for (int n = 1; n <= size(); n++) {
                all += stretchesOf(n).size();
            }
            return all;
        }

        int repeats(int n, int m) {
            if (n < 1 || m < 1 || m > 408) {
                return NONE;
            }
            int found = 0;
            for (List<Integer> places : stretchesOf(n).values()) {
                if (places.size() >= m) {
                    found++;
                }
            }
            return found;
        }

        int longest(int m, int what) {
            return m < 2 || m > 408 || what < 0 || what > 2 ? NONE : longestOne(m, what, false);
        }

        int shared(int m, int what) {
            return m < 1 || m > 8 || what < 0 || what > 3 ? NONE : longestOne(m, what, true);
        }

        private int longestOne(int m, int what, boolean inTexts) {
            for (int n = size(); n > 0; n--) {
                List<Integer> least = null;
                for (Map.Entry<List<Integer>, List<Integer>> one : stretchesOf(n).entrySet()) {
                    int has = inTexts ? textsOf(one.getValue()) : one.getValue().size();
                    if (has >= m && (least == null || isLess(one.getKey(), least))) {
                        least = one.getKey();
                    }
                }
                if (least != null) {
                    List<Integer> places = stretchesOf(n).get(least);
                    int[] told = {n, places.get(0), places.size(), textsOf(places)};
                    return told[what];
                }
            }
            return what == 0 ? 0 : NONE;
        }

        private static boolean isLess(List<Integer> a, List<Integer> b) {
            for (int k = 0; k < a.size(); k++) {
                if (!a.get(k).equals(b.get(k))) {
                    return a.get(k) < b.get(k);
                }
            }
            return false;
        }

        private int backward(int p) {
            return p == 0 ? size() - 1 : p - 1;
        }

        int before(int i) {
            return has(i) ? whole.get(backward(row.get(i))) : NONE;
        }

        int back(int i) {
            return has(i) ? rank(backward(row.get(i))) : NONE;
        }

        int steps(int i, int e) {
            if (!has(i) || e < 1 || e > 64) {
                return NONE;
            }
            int steps = 0;
            for (int p = row.get(i); p % e != 0; p = backward(p)) {
                steps++;
            }
            return steps;
        }

        int swap(int i, int j) {
            if (!has(i) || !has(j)) {
                return NONE;
            }
            int number = draft[i];
            draft[i] = draft[j];
            draft[j] = number;
            return 1;
        }

        int tell(int i, int v) {
            if (!has(i)) {
                return NONE;
            }
            int was = draft[i];
            draft[i] = v;
            return was;
        }

        int judge() {
            for (int i = 0; i < size(); i++) {
                if (!isRising(i + 1)) {
                    return i;
                }
            }
            return size();
        }

        private boolean isRising(int count) {
            TreeSet<Integer> seen = new TreeSet<>();
            for (int i = 0; i < count; i++) {
                if (!has(draft[i]) || !seen.add(draft[i])) {
                    return false;
                }
                if (i > 0 && Arrays.compare(suffix(draft[i - 1]), suffix(draft[i])) >= 0) {
                    return false;
                }
            }
            return true;
        }
    }
}
