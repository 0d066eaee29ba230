import java.util.ArrayList;
import java.util.Arrays;
import java.util.EnumSet;
import java.util.List;
import java.util.Set;

/** One new object and the calls made on it: no more than the 512 that the document lets an object have. */
final class Run {
    static final int NONE = -1;
    static final int LEAST = Integer.MIN_VALUE;
    static final int GREATEST = Integer.MAX_VALUE;
    private static final int MOST_CALLS = 512;
    private static final int MOST_PLACES = 408;

    /** What an object knows; a test can ask that a call leaves some of it as it was. */
    enum Part {
        TEXTS, WHOLE, PATTERN, DRAFT
    }

    private final SuffixRows rows = new SuffixRows();
    private final List<Call> calls = new ArrayList<>();
    private int places = 0;

    /**
     * TEXT 1 is 5 6 5 6 5 and TEXT 4 is 6 5, built:
     *
     *   place   0  1  2  3  4  5     6  7  8          i       0  1  2  3  4  5  6  7  8
     *           5  6  5  6  5  END1  6  5  END4       place   5  8  4  7  2  0  3  6  1
     *                                                 beside  0  0  0  1  1  3  0  2  2
     */
    static Run twoTexts() {
        return new Run().text(1, 5, 6, 5, 6, 5).text(4, 6, 5).due(9, "build");
    }

    /** The two texts with a PATTERN, a DRAFT and TEXTS that are not what they were at build(): all that can be lost. */
    static Run busy() {
        return twoTexts().due(1, "add", 0, 9, NONE, NONE, NONE).due(4, "cut", 1, 1).due(2, "pattern", 6, 5, NONE, NONE)
            .due(1, "swap", 3, 7).due(0, "tell", 5, 77);
    }

    /** A text of so many signs that are all alike, not built. */
    static Run alike(int count) {
        return new Run().more(0, count, 5);
    }

    /** 400 signs in eight texts of fifty, all different and rising, not built. */
    static Run eightFull() {
        Run run = new Run();
        for (int text = 0; text < 8; text++) {
            int[] signs = new int[50];
            for (int k = 0; k < 50; k++) {
                signs[k] = 50 * text + k;
            }
            run.text(text, signs);
        }
        return run;
    }

    Run text(int text, int... signs) {
        for (int k = 0; k < signs.length; k += 4) {
            due(Math.min(k + 4, signs.length), "add", text, signAt(signs, k), signAt(signs, k + 1),
                signAt(signs, k + 2), signAt(signs, k + 3));
        }
        return this;
    }

    /** A text that was empty has so many signs alike. */
    Run more(int text, int count, int sign) {
        int[] signs = new int[count];
        Arrays.fill(signs, sign);
        return text(text, signs);
    }

    /** So many signs alike come to the pattern, which was empty. */
    Run sought(int count, int sign) {
        for (int k = 1; k <= count; k++) {
            due(k, "pattern", sign, NONE, NONE, NONE);
        }
        return this;
    }

    private static int signAt(int[] signs, int k) {
        return k < signs.length ? signs[k] : NONE;
    }

    Run due(long want, String name, int... values) {
        Call call = new Call(name, values);
        Sentences.due(call.told(), make(call), want);
        return this;
    }

    /** name(0), name(1) .. are answered so, each with the same values behind its index. */
    Run dueFromZero(String name, int[] wants, int... behind) {
        for (int i = 0; i < wants.length; i++) {
            due(wants[i], name, joined(i, behind));
        }
        return this;
    }

    /** An index has its bounds: the answers that are due from 0 on, and a refusal on both sides of them. */
    Run dueAndNoMore(String name, int[] wants, int... behind) {
        dueFromZero(name, wants, behind);
        for (int i : new int[] {-1, wants.length, LEAST, GREATEST}) {
            refused(name, joined(i, behind));
        }
        return this;
    }

    private static int[] joined(int first, int... behind) {
        int[] all = new int[behind.length + 1];
        all[0] = first;
        System.arraycopy(behind, 0, all, 1, behind.length);
        return all;
    }

    /** The call answers NONE and leaves all as it was. */
    Run refused(String name, int... values) {
        return dueAndKeeps(EnumSet.allOf(Part.class), NONE, name, values);
    }

    /** The call is answered so, and these parts are as they were. */
    Run dueAndKeeps(Set<Part> parts, long want, String name, int... values) {
        List<Call> before = List.copyOf(calls);
        due(want, name, values);
        for (Part part : parts) {
            lookAt(part, before);
        }
        return this;
    }

    private long make(Call call) {
        calls.add(call);
        if (calls.size() > MOST_CALLS) {
            throw new IllegalStateException("the test itself makes more than " + MOST_CALLS + " calls");
        }
        long answer = call.on(rows);
        if (call.name.equals("build")) {
            places = (int) answer;
        }
        return answer;
    }

    /** Looks go to new objects with the same calls: so many looks would be more calls than one object has. */
    private void lookAt(Part part, List<Call> before) {
        List<Call> opening = part == Part.TEXTS ? List.of(new Call("build")) : List.of();
        List<Call> looks = looksAt(part);
        int room = MOST_CALLS - calls.size() - opening.size();
        if (room < 1) {
            throw new IllegalStateException("the test itself leaves no calls to look with");
        }
        for (int from = 0; from < looks.size(); from += room) {
            List<Call> some = looks.subList(from, Math.min(from + room, looks.size()));
            SuffixRows one = made(before, opening);
            SuffixRows other = made(calls, opening);
            for (Call look : some) {
                String told = calls.get(calls.size() - 1).told() + ", then " + look.told();
                Sentences.due(told, look.on(other), look.on(one));
            }
        }
    }

    private static SuffixRows made(List<Call> first, List<Call> then) {
        SuffixRows made = new SuffixRows();
        for (Call call : first) {
            call.on(made);
        }
        for (Call call : then) {
            call.on(made);
        }
        return made;
    }

    private List<Call> looksAt(Part part) {
        return switch (part) {
            case TEXTS -> looksAtTexts();
            case WHOLE -> looksAtWhole();
            case PATTERN -> looksAtPattern();
            case DRAFT -> looksAtDraft();
        };
    }

    private static List<Call> looksAtTexts() {
        List<Call> looks = new ArrayList<>();
        for (int text = 0; text < 8; text++) {
            looks.add(new Call("cut", text, 0));
        }
        for (int p = 0; p <= MOST_PLACES; p++) {
            looks.add(new Call("sign", p));
        }
        return looks;
    }

    private List<Call> looksAtWhole() {
        List<Call> looks = new ArrayList<>();
        for (int p = 0; p <= places; p++) {
            for (String name : new String[] {"sign", "at", "rank", "beside", "before", "back"}) {
                looks.add(new Call(name, p));
            }
            for (int what = 0; what < 3; what++) {
                looks.add(new Call("text", p, what));
                looks.add(new Call("copy", p, what));
                looks.add(new Call("longest", p, what));
            }
            looks.add(new Call("common", p, 0));
            looks.add(new Call("steps", p, 64));
            looks.add(new Call("repeats", 1, p));
        }
        for (int m = 1; m <= 8; m++) {
            for (int what = 0; what < 4; what++) {
                looks.add(new Call("shared", m, what));
            }
        }
        looks.add(new Call("different"));
        return looks;
    }

    private List<Call> looksAtPattern() {
        List<Call> looks = new ArrayList<>();
        for (int what = 0; what < 6; what++) {
            looks.add(new Call("find", what));
        }
        for (int k = 0; k <= places; k++) {
            looks.add(new Call("where", k));
        }
        looks.add(new Call("wipe"));
        return looks;
    }

    private List<Call> looksAtDraft() {
        List<Call> looks = new ArrayList<>();
        looks.add(new Call("judge"));
        for (int i = 0; i <= places; i++) {
            looks.add(new Call("tell", i, 0));
        }
        return looks;
    }

    private static final class Call {
        private final String name;
        private final int[] values;

        Call(String name, int... values) {
            this.name = name;
            this.values = values.clone();
        }

        String told() {
            StringBuilder told = new StringBuilder(name).append('(');
            for (int k = 0; k < values.length; k++) {
                told.append(k == 0 ? "" : ", ").append(values[k]);
            }
            return told.append(')').toString();
        }

        long on(SuffixRows x) {
            int[] v = values;
            return switch (name) {
                case "add" -> x.add(v[0], v[1], v[2], v[3], v[4]);
                case "cut" -> x.cut(v[0], v[1]);
                case "build" -> x.build();
                case "sign" -> x.sign(v[0]);
                case "text" -> x.text(v[0], v[1]);
                case "at" -> x.at(v[0]);
                case "rank" -> x.rank(v[0]);
                case "beside" -> x.beside(v[0]);
                case "common" -> x.common(v[0], v[1]);
                case "copy" -> x.copy(v[0], v[1]);
                case "pattern" -> x.pattern(v[0], v[1], v[2], v[3]);
                case "wipe" -> x.wipe();
                case "find" -> x.find(v[0]);
                case "where" -> x.where(v[0]);
                case "different" -> x.different();
                case "repeats" -> x.repeats(v[0], v[1]);
                case "longest" -> x.longest(v[0], v[1]);
                case "shared" -> x.shared(v[0], v[1]);
                case "before" -> x.before(v[0]);
                case "back" -> x.back(v[0]);
                case "steps" -> x.steps(v[0], v[1]);
                case "swap" -> x.swap(v[0], v[1]);
                case "tell" -> x.tell(v[0], v[1]);
                case "judge" -> x.judge();
                default -> throw new IllegalArgumentException("no such call: " + name);
            };
        }
    }
}
