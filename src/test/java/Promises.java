/**
 * One method for each promise of the document, with answers worked out by hand from its words.
 *
 * Most use the same two texts: TEXT 1 is 5 6 5 6 5 and TEXT 4 is 6 5, so THE WHOLE is
 *
 *   place   0  1  2  3  4  5     6  7  8
 *           5  6  5  6  5  END1  6  5  END4
 *
 * and THE ROW, with what neighbours have in common:
 *
 *   i       0  1  2  3  4  5  6  7  8
 *   place   5  8  4  7  2  0  3  6  1
 *   beside  0  0  0  1  1  3  0  2  2
 */
public final class Promises {
    private static final int NONE = -1;
    private static int calls = 0;
    private static int wrong = 0;
    private static int promise = 0;

    private static void due(String call, long got, long want) {
        calls++;
        if (got != want) {
            wrong++;
            System.out.println("promise " + promise + ": " + call + " answered " + got + ", due is " + want);
        }
    }

    public static void main(String[] args) {
        promise1();
        promise2();
        promise2Limit();
        promise3();
        promise4();
        promise5();
        promise6();
        promise7();
        promise8();
        promise9();
        promise10();
        promise11();
        promise12();
        promise13();
        promise14();
        promise14Edges();
        promise15();
        promise16();
        promise17();
        promise18();
        promise19();
        promise20();
        promise21();
        promise22();
        promise23();
        promise24();
        promise25();
        fullWhole();
        System.out.println(calls + " answers looked at, " + wrong + " not as due");
        if (wrong != 0) {
            System.exit(1);
        }
    }

    private static SuffixRows twoTexts() {
        SuffixRows x = new SuffixRows();
        x.add(4, 6, 5, NONE, NONE);
        x.add(1, 5, 6, 5, 6);
        x.add(1, 5, NONE, NONE, NONE);
        x.build();
        return x;
    }

    private static SuffixRows full(int text, int sign) {
        SuffixRows x = new SuffixRows();
        for (int k = 0; k < 100; k++) {
            x.add(text, sign, sign, sign, sign);
        }
        return x;
    }

    private static final int[] NO_INDEX = {-1, 9, -2, 10, 408, Integer.MAX_VALUE, Integer.MIN_VALUE};

    private static void promise1() {
        promise = 1;
        due("NONE", SuffixRows.NONE, NONE);
        SuffixRows x = new SuffixRows();
        for (int p = -1; p <= 1; p++) {
            due("sign before build", x.sign(p), NONE);
            due("text before build", x.text(p, 0), NONE);
            due("at before build", x.at(p), NONE);
            due("rank before build", x.rank(p), NONE);
            due("beside before build", x.beside(p), NONE);
            due("common before build", x.common(p, p), NONE);
            due("copy before build", x.copy(p, 1), NONE);
            due("before before build", x.before(p), NONE);
            due("back before build", x.back(p), NONE);
            due("steps before build", x.steps(p, 1), NONE);
            due("swap before build", x.swap(p, p), NONE);
            due("tell before build", x.tell(p, 0), NONE);
            due("where before build", x.where(p), NONE);
        }
        due("find(0) before build", x.find(0), 0);
        due("find(1) before build", x.find(1), 0);
        due("find(2) before build", x.find(2), 0);
        due("find(3) before build", x.find(3), NONE);
        due("find(4) before build", x.find(4), NONE);
        due("find(5) before build", x.find(5), 0);
        due("different before build", x.different(), 0);
        due("repeats before build", x.repeats(1, 1), 0);
        due("longest before build", x.longest(2, 0), 0);
        due("shared before build", x.shared(1, 0), 0);
        due("judge before build", x.judge(), 0);
        due("wipe of a new object", x.wipe(), 0);
        for (int text = 0; text < 8; text++) {
            due("cut(text, 0) of a new object", x.cut(text, 0), 0);
            due("cut(text, 1) of a new object", x.cut(text, 1), NONE);
        }
        SuffixRows y = new SuffixRows();
        x.add(0, 1, 2, 3, 4);
        x.build();
        due("build of another object", y.build(), 0);
    }

    private static void promise2() {
        promise = 2;
        SuffixRows x = new SuffixRows();
        due("add one", x.add(0, 7, NONE, NONE, NONE), 1);
        due("add two between NONEs", x.add(0, NONE, 8, NONE, 9), 3);
        due("add nothing", x.add(0, NONE, NONE, NONE, NONE), 3);
        due("add nothing to an empty one", x.add(7, NONE, NONE, NONE, NONE), 0);
        due("add the least and the greatest", x.add(7, 0, 999, 0, 999), 4);
        due("add four in order", x.add(0, 1, 2, 3, 4), 7);
        due("add to text 8", x.add(8, 1, 1, 1, 1), NONE);
        due("add to text -1", x.add(-1, 1, 1, 1, 1), NONE);
        due("add to no text", x.add(Integer.MAX_VALUE, 1, 1, 1, 1), NONE);
        due("add nothing to no text", x.add(8, NONE, NONE, NONE, NONE), NONE);
        int[] others = {1000, -2, Integer.MAX_VALUE, Integer.MIN_VALUE};
        for (int other : others) {
            due("add another number first", x.add(0, other, 1, 1, 1), NONE);
            due("add another number second", x.add(0, 1, other, 1, 1), NONE);
            due("add another number third", x.add(0, 1, 1, other, 1), NONE);
            due("add another number last", x.add(0, 1, 1, 1, other), NONE);
        }
        due("none came", x.add(0, NONE, NONE, NONE, NONE), 7);
        due("build", x.build(), 8 + 5);
        int[] signs = {7, 8, 9, 1, 2, 3, 4, -2, 0, 999, 0, 999, -9};
        for (int p = 0; p < signs.length; p++) {
            due("sign", x.sign(p), signs[p]);
        }
    }

    private static void promise2Limit() {
        SuffixRows x = full(2, 3);
        due("add the 401st", x.add(2, 1, NONE, NONE, NONE), NONE);
        due("add the 401st to another", x.add(3, NONE, NONE, NONE, 1), NONE);
        due("add nothing when full", x.add(2, NONE, NONE, NONE, NONE), 400);
        due("cut when full", x.cut(2, 3), 397);
        due("add four where three have room", x.add(5, 1, 1, 1, 1), NONE);
        due("none of the four came", x.add(5, NONE, NONE, NONE, NONE), 0);
        due("add three where three have room", x.add(5, 1, NONE, 1, 1), 3);
        due("build when full", x.build(), 402);
        SuffixRows y = new SuffixRows();
        for (int k = 0; k < 100; k++) {
            y.add(k % 8, k, k, k, k);
        }
        due("add to eight full texts", y.add(7, 0, NONE, NONE, NONE), NONE);
        due("build of eight texts", y.build(), 408);
    }

    private static void promise3() {
        promise = 3;
        SuffixRows x = twoTexts();
        due("cut(1, 0)", x.cut(1, 0), 5);
        due("cut(1, 2)", x.cut(1, 2), 3);
        due("cut(1, 4)", x.cut(1, 4), NONE);
        due("cut(1, -1)", x.cut(1, -1), NONE);
        due("cut(1, least int)", x.cut(1, Integer.MIN_VALUE), NONE);
        due("cut(1, greatest int)", x.cut(1, Integer.MAX_VALUE), NONE);
        due("cut(8, 0)", x.cut(8, 0), NONE);
        due("cut(-1, 0)", x.cut(-1, 0), NONE);
        due("cut of an empty text", x.cut(0, 1), NONE);
        due("the whole stays", x.sign(4), 5);
        due("build", x.build(), 4 + 3);
        int[] signs = {5, 6, 5, -3, 6, 5, -6};
        for (int p = 0; p < signs.length; p++) {
            due("sign after cut", x.sign(p), signs[p]);
        }
        due("cut all", x.cut(1, 3), 0);
        due("add behind cut", x.add(1, 9, NONE, NONE, NONE), 1);
        due("build", x.build(), 2 + 3);
        due("sign behind cut", x.sign(0), 9);
    }

    private static void promise4() {
        promise = 4;
        SuffixRows x = twoTexts();
        due("add behind build", x.add(4, 7, NONE, NONE, NONE), 3);
        due("add before build", x.add(0, 1, NONE, NONE, NONE), 1);
        due("sign of the latest build", x.sign(0), 5);
        due("no place of the latest build", x.at(9), NONE);
        due("find of the latest build", x.find(0), 9);
        due("different of the latest build", x.different(), 9);
        due("build", x.build(), 12);
        due("sign of the new build", x.sign(0), 1);
        due("sign of the new build", x.sign(10), 7);
        due("build twice", x.build(), 12);
        x.cut(0, 1);
        x.cut(1, 5);
        x.cut(4, 3);
        due("build of nothing", x.build(), 0);
        due("no place", x.at(0), NONE);
        due("judge of nothing", x.judge(), 0);
        x.pattern(6, NONE, NONE, NONE);
        x.add(3, 6, NONE, NONE, NONE);
        due("build", x.build(), 2);
        due("the pattern outlives build", x.find(0), 1);
    }

    private static void promise5() {
        promise = 5;
        SuffixRows x = twoTexts();
        int[] signs = {5, 6, 5, 6, 5, -3, 6, 5, -6};
        for (int p = 0; p < 9; p++) {
            due("sign(" + p + ")", x.sign(p), signs[p]);
        }
        for (int p : NO_INDEX) {
            due("sign(" + p + ")", x.sign(p), NONE);
        }
    }

    private static void promise6() {
        promise = 6;
        SuffixRows x = twoTexts();
        for (int p = 0; p < 9; p++) {
            due("text(" + p + ", 0)", x.text(p, 0), p < 6 ? 1 : 4);
            due("text(" + p + ", 1)", x.text(p, 1), p < 6 ? p : p - 6);
            due("text(" + p + ", 2)", x.text(p, 2), NONE);
            due("text(" + p + ", -1)", x.text(p, -1), NONE);
        }
        for (int p : NO_INDEX) {
            due("text(" + p + ", 0)", x.text(p, 0), NONE);
            due("text(" + p + ", 1)", x.text(p, 1), NONE);
        }
    }

    private static final int[] ROW = {5, 8, 4, 7, 2, 0, 3, 6, 1};
    private static final int[] BESIDE = {0, 0, 0, 1, 1, 3, 0, 2, 2};

    private static void promise7() {
        promise = 7;
        SuffixRows x = twoTexts();
        for (int i = 0; i < 9; i++) {
            due("at(" + i + ")", x.at(i), ROW[i]);
        }
        for (int i : NO_INDEX) {
            due("at(" + i + ")", x.at(i), NONE);
        }
        // The END that stands first is less, also where it decides between two texts that are alike.
        SuffixRows y = new SuffixRows();
        y.add(6, 3, NONE, NONE, NONE);
        y.add(2, 3, NONE, NONE, NONE);
        y.build();
        int[] row = {1, 3, 0, 2};
        for (int i = 0; i < 4; i++) {
            due("at(" + i + ") of like texts", y.at(i), row[i]);
        }
    }

    private static void promise8() {
        promise = 8;
        SuffixRows x = twoTexts();
        for (int i = 0; i < 9; i++) {
            due("rank(" + ROW[i] + ")", x.rank(ROW[i]), i);
        }
        for (int p : NO_INDEX) {
            due("rank(" + p + ")", x.rank(p), NONE);
        }
    }

    private static void promise9() {
        promise = 9;
        SuffixRows x = twoTexts();
        for (int i = 0; i < 9; i++) {
            due("beside(" + i + ")", x.beside(i), BESIDE[i]);
        }
        for (int i : NO_INDEX) {
            due("beside(" + i + ")", x.beside(i), NONE);
        }
    }

    private static void promise10() {
        promise = 10;
        SuffixRows x = twoTexts();
        due("common(0, 2)", x.common(0, 2), 3);
        due("common(2, 0)", x.common(2, 0), 3);
        due("common(1, 6)", x.common(1, 6), 2);
        due("common(0, 6)", x.common(0, 6), 0);
        due("common(5, 8)", x.common(5, 8), 0);
        due("common(0, 0)", x.common(0, 0), 5);
        due("common(7, 7)", x.common(7, 7), 1);
        due("common(8, 8)", x.common(8, 8), 0);
        for (int p : NO_INDEX) {
            due("common(" + p + ", 0)", x.common(p, 0), NONE);
            due("common(0, " + p + ")", x.common(0, p), NONE);
            due("common(" + p + ", " + p + ")", x.common(p, p), NONE);
        }
    }

    private static void promise11() {
        promise = 11;
        SuffixRows x = twoTexts();
        int[] place = {NONE, NONE, 0, 1, 0, NONE, 1, 0, NONE};
        int[] length = {0, 0, 3, 2, 1, 0, 2, 1, 0};
        int[] pieces = {3, 2, 1, 1, 1, 0, 1, 1, 0};
        for (int p = 0; p < 9; p++) {
            due("copy(" + p + ", 0)", x.copy(p, 0), place[p]);
            due("copy(" + p + ", 1)", x.copy(p, 1), length[p]);
            due("copy(" + p + ", 2)", x.copy(p, 2), pieces[p]);
            due("copy(" + p + ", 3)", x.copy(p, 3), NONE);
            due("copy(" + p + ", -1)", x.copy(p, -1), NONE);
        }
        for (int p : NO_INDEX) {
            for (int what = 0; what < 3; what++) {
                due("copy(" + p + ", " + what + ")", x.copy(p, what), NONE);
            }
        }
        // A copy may run into the place that it is of.
        SuffixRows y = full(0, 1);
        y.build();
        due("copy of the second of many alike", y.copy(1, 0), 0);
        due("its length", y.copy(1, 1), 399);
        due("its pieces", y.copy(0, 2), 2);
    }

    private static void promise12() {
        promise = 12;
        SuffixRows x = twoTexts();
        due("pattern", x.pattern(NONE, 6, NONE, 5), 2);
        due("pattern of nothing", x.pattern(NONE, NONE, NONE, NONE), 2);
        int[] others = {1000, -2, Integer.MAX_VALUE, Integer.MIN_VALUE};
        for (int other : others) {
            due("another number first", x.pattern(other, 5, NONE, NONE), NONE);
            due("another number second", x.pattern(5, other, NONE, NONE), NONE);
            due("another number third", x.pattern(5, NONE, other, NONE), NONE);
            due("another number last", x.pattern(5, NONE, NONE, other), NONE);
        }
        due("none came", x.find(0), 3);
        due("a sign that the whole has not", x.pattern(999, NONE, NONE, 0), 4);
        for (int k = 2; k <= 10; k++) {
            due("pattern grows", x.pattern(1, 2, 3, 4), 4 * k);
        }
        due("the 41st", x.pattern(1, NONE, NONE, NONE), NONE);
        due("nothing when full", x.pattern(NONE, NONE, NONE, NONE), 40);
        x.wipe();
        for (int k = 1; k <= 9; k++) {
            x.pattern(1, 1, 1, 1);
        }
        due("up to 39", x.pattern(1, 1, 1, NONE), 39);
        due("two where one has room", x.pattern(1, 1, NONE, NONE), NONE);
        due("none of the two came", x.wipe(), 39);
    }

    private static void promise13() {
        promise = 13;
        SuffixRows x = twoTexts();
        x.pattern(6, 5, 6, NONE);
        due("find before wipe", x.find(0), 1);
        due("wipe", x.wipe(), 3);
        due("wipe again", x.wipe(), 0);
        due("find behind wipe", x.find(0), 9);
        x.pattern(5, NONE, NONE, NONE);
        due("the new pattern", x.find(0), 4);
        due("wipe of the new pattern", x.wipe(), 1);
    }

    private static void dueFind(SuffixRows x, String told, int[] answers) {
        for (int what = 0; what < answers.length; what++) {
            due("find(" + what + ") of " + told, x.find(what), answers[what]);
        }
    }

    private static void promise14() {
        promise = 14;
        SuffixRows x = twoTexts();
        dueFind(x, "the empty pattern", new int[] {9, 0, 2, 0, 8, 0});
        x.pattern(5, NONE, NONE, NONE);
        dueFind(x, "5", new int[] {4, 2, 2, 0, 7, 1});
        x.pattern(6, NONE, NONE, NONE);
        dueFind(x, "5 6", new int[] {2, 4, 1, 0, 2, 2});
        x.pattern(6, NONE, NONE, NONE);
        dueFind(x, "5 6 6", new int[] {0, 6, 0, NONE, NONE, 2});
        x.wipe();
        x.pattern(6, 5, NONE, NONE);
        dueFind(x, "6 5", new int[] {3, 6, 2, 1, 6, 2});
        x.pattern(4, NONE, NONE, NONE);
        dueFind(x, "6 5 4", new int[] {0, 8, 0, NONE, NONE, 2});
        int[] others = {6, -1, Integer.MAX_VALUE, Integer.MIN_VALUE};
        for (int what : others) {
            due("find(" + what + ")", x.find(what), NONE);
        }
    }

    private static void promise14Edges() {
        SuffixRows x = twoTexts();
        x.pattern(0, NONE, NONE, NONE);
        dueFind(x, "a sign less than all", new int[] {0, 2, 0, NONE, NONE, 0});
        x.wipe();
        x.pattern(999, NONE, NONE, NONE);
        dueFind(x, "a sign greater than all", new int[] {0, 9, 0, NONE, NONE, 0});
        x.wipe();
        x.pattern(6, 5, 6, 5);
        dueFind(x, "the whole suffix of place 1", new int[] {1, 8, 1, 1, 1, 4});
        x.pattern(6, NONE, NONE, NONE);
        dueFind(x, "more than is left of the text", new int[] {0, 9, 0, NONE, NONE, 4});
    }

    private static void promise15() {
        promise = 15;
        SuffixRows x = twoTexts();
        for (int k = 0; k < 9; k++) {
            due("where(" + k + ") of the empty pattern", x.where(k), k);
        }
        due("where(9) of the empty pattern", x.where(9), NONE);
        x.pattern(5, NONE, NONE, NONE);
        int[] places = {0, 2, 4, 7, NONE, NONE};
        for (int k = 0; k < places.length; k++) {
            due("where(" + k + ")", x.where(k), places[k]);
        }
        for (int k : NO_INDEX) {
            due("where(" + k + ")", x.where(k), NONE);
        }
        x.pattern(5, NONE, NONE, NONE);
        due("where(0) of what stands nowhere", x.where(0), NONE);
    }

    private static void promise16() {
        promise = 16;
        SuffixRows x = twoTexts();
        // 5, 6, 56, 65, 565, 656, 5656, 6565, 56565
        due("different", x.different(), 9);
        SuffixRows y = full(0, 1);
        y.build();
        due("different of many alike", y.different(), 400);
        SuffixRows z = new SuffixRows();
        for (int k = 0; k < 100; k++) {
            z.add(3, 4 * k, 4 * k + 1, 4 * k + 2, 4 * k + 3);
        }
        z.build();
        due("different of all different", z.different(), 80200);
    }

    private static void promise17() {
        promise = 17;
        SuffixRows x = twoTexts();
        due("repeats(1, 1)", x.repeats(1, 1), 2);
        due("repeats(1, 3)", x.repeats(1, 3), 2);
        due("repeats(1, 4)", x.repeats(1, 4), 1);
        due("repeats(1, 5)", x.repeats(1, 5), 0);
        due("repeats(2, 1)", x.repeats(2, 1), 2);
        due("repeats(2, 2)", x.repeats(2, 2), 2);
        due("repeats(2, 3)", x.repeats(2, 3), 1);
        due("repeats(3, 1)", x.repeats(3, 1), 2);
        due("repeats(3, 2)", x.repeats(3, 2), 1);
        due("repeats(5, 1)", x.repeats(5, 1), 1);
        due("repeats(6, 1)", x.repeats(6, 1), 0);
        due("repeats(greatest, 1)", x.repeats(Integer.MAX_VALUE, 1), 0);
        due("repeats(1, 408)", x.repeats(1, 408), 0);
        due("repeats(1, 409)", x.repeats(1, 409), NONE);
        due("repeats(1, 0)", x.repeats(1, 0), NONE);
        due("repeats(1, least)", x.repeats(1, Integer.MIN_VALUE), NONE);
        due("repeats(1, greatest)", x.repeats(1, Integer.MAX_VALUE), NONE);
        due("repeats(0, 1)", x.repeats(0, 1), NONE);
        due("repeats(-1, 1)", x.repeats(-1, 1), NONE);
        due("repeats(least, 1)", x.repeats(Integer.MIN_VALUE, 1), NONE);
        SuffixRows y = full(0, 1);
        y.build();
        due("repeats(1, 400)", y.repeats(1, 400), 1);
        due("repeats(1, 401)", y.repeats(1, 401), 0);
        due("repeats(2, 400)", y.repeats(2, 400), 0);
    }

    private static void dueLongest(SuffixRows x, int m, int length, int place, int count) {
        due("longest(" + m + ", 0)", x.longest(m, 0), length);
        due("longest(" + m + ", 1)", x.longest(m, 1), place);
        due("longest(" + m + ", 2)", x.longest(m, 2), count);
    }

    private static void promise18() {
        promise = 18;
        SuffixRows x = twoTexts();
        dueLongest(x, 2, 3, 0, 2);
        dueLongest(x, 3, 2, 1, 3);
        dueLongest(x, 4, 1, 0, 4);
        dueLongest(x, 5, 0, NONE, NONE);
        dueLongest(x, 408, 0, NONE, NONE);
        int[] others = {1, 0, -1, 409, Integer.MAX_VALUE, Integer.MIN_VALUE};
        for (int m : others) {
            dueLongest(x, m, NONE, NONE, NONE);
        }
        due("longest(2, 3)", x.longest(2, 3), NONE);
        due("longest(2, -1)", x.longest(2, -1), NONE);
        due("longest(5, 3)", x.longest(5, 3), NONE);
        // Of 9 9 and 3 3, which stand twice each, the least, though it stands behind.
        SuffixRows y = new SuffixRows();
        y.add(0, 9, 9, 1, 9);
        y.add(0, 9, 3, 3, 2);
        y.add(0, 3, 3, NONE, NONE);
        y.build();
        dueLongest(y, 2, 2, 5, 2);
    }

    private static void dueShared(SuffixRows x, int m, int[] answers) {
        for (int what = 0; what < 4; what++) {
            due("shared(" + m + ", " + what + ")", x.shared(m, what), answers[what]);
        }
    }

    private static void promise19() {
        promise = 19;
        SuffixRows x = twoTexts();
        dueShared(x, 1, new int[] {5, 0, 1, 1});
        dueShared(x, 2, new int[] {2, 1, 3, 2});
        dueShared(x, 3, new int[] {0, NONE, NONE, NONE});
        dueShared(x, 8, new int[] {0, NONE, NONE, NONE});
        int[] others = {0, -1, 9, Integer.MAX_VALUE, Integer.MIN_VALUE};
        for (int m : others) {
            dueShared(x, m, new int[] {NONE, NONE, NONE, NONE});
        }
        due("shared(1, 4)", x.shared(1, 4), NONE);
        due("shared(1, -1)", x.shared(1, -1), NONE);
        SuffixRows y = new SuffixRows();
        for (int text = 0; text < 8; text++) {
            y.add(text, text, 500, 501, text);
        }
        y.build();
        dueShared(y, 8, new int[] {2, 1, 8, 8});
        dueShared(y, 1, new int[] {4, 0, 1, 1});
        // The longest one that several texts share, though a longer one stands often in one of them.
        SuffixRows z = new SuffixRows();
        z.add(0, 4, 4, 4, 4);
        z.add(1, 4, 7, NONE, NONE);
        z.build();
        dueShared(z, 2, new int[] {1, 0, 5, 2});
    }

    private static void promise20() {
        promise = 20;
        SuffixRows x = twoTexts();
        int[] signs = {5, 5, 6, 6, 6, -6, 5, -3, 5};
        for (int i = 0; i < 9; i++) {
            due("before(" + i + ")", x.before(i), signs[i]);
        }
        for (int i : NO_INDEX) {
            due("before(" + i + ")", x.before(i), NONE);
        }
    }

    private static void promise21() {
        promise = 21;
        SuffixRows x = twoTexts();
        int[] ranks = {2, 3, 6, 7, 8, 1, 4, 0, 5};
        for (int i = 0; i < 9; i++) {
            due("back(" + i + ")", x.back(i), ranks[i]);
        }
        for (int i : NO_INDEX) {
            due("back(" + i + ")", x.back(i), NONE);
        }
    }

    private static void promise22() {
        promise = 22;
        SuffixRows x = twoTexts();
        int[] threes = {2, 2, 1, 1, 2, 0, 0, 0, 1};
        for (int i = 0; i < 9; i++) {
            due("steps(" + i + ", 1)", x.steps(i, 1), 0);
            due("steps(" + i + ", 3)", x.steps(i, 3), threes[i]);
            due("steps(" + i + ", 64)", x.steps(i, 64), ROW[i]);
            due("steps(" + i + ", 65)", x.steps(i, 65), NONE);
            due("steps(" + i + ", 0)", x.steps(i, 0), NONE);
            due("steps(" + i + ", -1)", x.steps(i, -1), NONE);
            due("steps(" + i + ", least)", x.steps(i, Integer.MIN_VALUE), NONE);
        }
        for (int i : NO_INDEX) {
            due("steps(" + i + ", 2)", x.steps(i, 2), NONE);
        }
        SuffixRows y = full(0, 1);
        y.build();
        due("steps far from 0", y.steps(y.rank(399), 64), 399 - 384);
    }

    private static void promise23() {
        promise = 23;
        SuffixRows x = twoTexts();
        due("swap(3, 3)", x.swap(3, 3), 1);
        due("judge", x.judge(), 9);
        due("swap(2, 5)", x.swap(2, 5), 1);
        due("tell(2, 0)", x.tell(2, 0), 0);
        due("tell(5, 4)", x.tell(5, 4), 4);
        due("judge", x.judge(), 3);
        due("swap back", x.swap(5, 2), 1);
        due("judge", x.judge(), 9);
        for (int i : NO_INDEX) {
            due("swap(" + i + ", 0)", x.swap(i, 0), NONE);
            due("swap(0, " + i + ")", x.swap(0, i), NONE);
            due("swap(" + i + ", " + i + ")", x.swap(i, i), NONE);
        }
        due("judge", x.judge(), 9);
        due("the row stays", x.at(2), 4);
    }

    private static void promise24() {
        promise = 24;
        SuffixRows x = twoTexts();
        for (int i = 0; i < 9; i++) {
            due("tell(" + i + ", ..)", x.tell(i, 100 + i), ROW[i]);
        }
        due("tell(4, least)", x.tell(4, Integer.MIN_VALUE), 104);
        due("tell(4, greatest)", x.tell(4, Integer.MAX_VALUE), Integer.MIN_VALUE);
        due("tell(4, -1)", x.tell(4, -1), Integer.MAX_VALUE);
        due("tell(4, 2)", x.tell(4, 2), -1);
        for (int i : NO_INDEX) {
            due("tell(" + i + ", 1)", x.tell(i, 1), NONE);
        }
        due("the row stays", x.at(0), 5);
        x.build();
        due("a new build makes the draft anew", x.tell(0, 5), 5);
        due("judge of the draft made anew", x.judge(), 9);
    }

    private static void promise25() {
        promise = 25;
        SuffixRows x = twoTexts();
        due("judge of the row", x.judge(), 9);
        x.tell(8, 6);
        due("the last one told twice", x.judge(), 8);
        x.tell(8, 9);
        due("the last one no place", x.judge(), 8);
        x.tell(6, -1);
        due("a number below", x.judge(), 6);
        x.tell(6, Integer.MIN_VALUE);
        due("the least number", x.judge(), 6);
        x.tell(6, Integer.MAX_VALUE);
        due("the greatest number", x.judge(), 6);
        x.tell(3, 4);
        due("one told twice", x.judge(), 3);
        x.tell(0, 1);
        due("the first is the greatest", x.judge(), 1);
        x.tell(0, 9);
        due("the first no place", x.judge(), 0);
        x.build();
        x.swap(0, 1);
        due("the first two exchanged", x.judge(), 1);
        x.build();
        x.tell(4, 0);
        due("a place left out, still rising", x.judge(), 5);
        x.build();
        x.tell(4, 1);
        due("one too great: the next is wrong", x.judge(), 5);
    }

    /** All 408 places: the last index, and the first that is none, of every call that takes one. */
    private static void fullWhole() {
        SuffixRows x = new SuffixRows();
        for (int k = 0; k < 400; k += 4) {
            x.add(k / 50, k, k + 1, k + 2, k + 3);
        }
        promise = 4;
        due("build of 408", x.build(), 408);
        promise = 14;
        dueFind(x, "the empty pattern in 408", new int[] {408, 0, 8, 0, 407, 0});
        x.pattern(999, NONE, NONE, NONE);
        dueFind(x, "a sign greater than all 408", new int[] {0, 408, 0, NONE, NONE, 0});
        x.wipe();
        x.pattern(396, 397, 398, 399);
        dueFind(x, "the last signs of 408", new int[] {1, 404, 1, 403, 403, 4});
        x.pattern(0, NONE, NONE, NONE);
        dueFind(x, "more than the last signs of 408", new int[] {0, 405, 0, NONE, NONE, 4});
        x.wipe();
        int[] last = {x.sign(407), x.text(407, 0), x.at(407), x.rank(407), x.beside(407), x.common(407, 407),
            x.copy(407, 2), x.where(407), x.before(407), x.back(407), x.steps(407, 64), x.swap(407, 407),
            x.tell(407, 406)};
        int[] due = {-9, 7, 406, 7, 0, 0, 0, 407, 398, 406, 406 % 64, 1, 406};
        int[] beyond = {x.sign(408), x.text(408, 0), x.at(408), x.rank(408), x.beside(408), x.common(408, 408),
            x.copy(408, 2), x.where(408), x.before(408), x.back(408), x.steps(408, 64), x.swap(408, 408),
            x.tell(408, 407)};
        int[] promises = {5, 6, 7, 8, 9, 10, 11, 15, 20, 21, 22, 23, 24};
        for (int k = 0; k < promises.length; k++) {
            promise = promises[k];
            due("the last index of 408", last[k], due[k]);
            due("the index 408", beyond[k], NONE);
        }
        promise = 25;
        due("judge of 408", x.judge(), 408);
        due("tell a number of none", x.tell(407, 408), 406);
        due("judge of the last of 408", x.judge(), 407);
    }
}
