/** The bounds that promises 7 to 11 name: at, rank, beside, common, copy. */
public final class BoundsOfRow {
    private static final int NONE = Run.NONE;
    private static final int[] NO_INDEXES_OF_NINE = {-1, 9, Run.LEAST, Run.GREATEST};

    public static void main(String[] args) {
        Sentences.of("7 at: The PLACE at i in THE ROW (from 0)", BoundsOfRow::atFromZero);
        Sentences.of("7 at: NONE", BoundsOfRow::atNone);
        Sentences.of("8 rank: Where a PLACE is in THE ROW", BoundsOfRow::rankInRow);
        Sentences.of("8 rank: NONE", BoundsOfRow::rankNone);
        Sentences.of("9 beside: COMMON of the PLACES at i and i - 1", BoundsOfRow::besideCommon);
        Sentences.of("9 beside: 0 at i = 0", BoundsOfRow::besideZero);
        Sentences.of("9 beside: NONE: no such i", BoundsOfRow::besideNone);
        Sentences.of("10 common: COMMON of two PLACES", BoundsOfRow::commonOfTwo);
        Sentences.of("10 common: NONE", BoundsOfRow::commonNone);
        Sentences.of("11 copy: THE COPY of a PLACE, how long", BoundsOfRow::copyAndLength);
        Sentences.of("11 copy: how many pieces THE WHOLE from this PLACE on to its END has", BoundsOfRow::piecesToEnd);
        Sentences.of("11 copy: its END (it not too)", BoundsOfRow::piecesWithoutEnd);
        Sentences.of("11 copy: each piece is as long as THE COPY of where it begins", BoundsOfRow::piecesLong);
        Sentences.of("11 copy: 1 without one", BoundsOfRow::piecesOfOne);
        Sentences.of("11 copy: NONE", BoundsOfRow::copyNone);
        Sentences.close();
    }

    private static void atFromZero() {
        Run.busy().dueAndNoMore("at", new int[] {5, 8, 4, 7, 2, 0, 3, 6, 1});
        new Run().text(2, 0).due(2, "build").dueAndNoMore("at", new int[] {1, 0});
        new Run().text(2, 0, 999, 0).due(4, "build").dueAndNoMore("at", new int[] {3, 2, 0, 1});
    }

    private static void atNone() {
        new Run().due(0, "build").dueAndNoMore("at", new int[0]);
        Run.eightFull().due(408, "build").due(50, "at", 0).due(406, "at", 407).refused("at", 408).refused("at", -1)
            .refused("at", Run.LEAST).refused("at", Run.GREATEST);
        Run.alike(400).due(401, "build").due(400, "at", 0).due(0, "at", 400).refused("at", 401);
    }

    private static void rankInRow() {
        Run.busy().dueAndNoMore("rank", new int[] {5, 8, 4, 6, 2, 0, 7, 3, 1});
        new Run().text(2, 0).due(2, "build").dueAndNoMore("rank", new int[] {1, 0});
        new Run().text(2, 0, 999, 0).due(4, "build").dueAndNoMore("rank", new int[] {2, 3, 1, 0});
    }

    private static void rankNone() {
        new Run().due(0, "build").dueAndNoMore("rank", new int[0]);
        Run.eightFull().due(408, "build").due(8, "rank", 0).due(7, "rank", 407).due(407, "rank", 406)
            .refused("rank", 408).refused("rank", -1).refused("rank", Run.LEAST).refused("rank", Run.GREATEST);
    }

    private static void besideCommon() {
        Run.busy().dueAndNoMore("beside", new int[] {0, 0, 0, 1, 1, 3, 0, 2, 2});
        Run.alike(400).due(401, "build").due(0, "beside", 1).due(1, "beside", 2).due(398, "beside", 399)
            .due(399, "beside", 400);
        new Run().more(0, 200, 5).more(7, 200, 5).due(402, "build").due(0, "beside", 2).due(1, "beside", 3)
            .due(199, "beside", 400).due(200, "beside", 401);
    }

    private static void besideZero() {
        new Run().text(2, 0).due(2, "build").due(0, "beside", 0);
        Run.alike(400).due(401, "build").due(0, "beside", 0);
        Run.eightFull().due(408, "build").due(0, "beside", 0).due(0, "beside", 407);
    }

    private static void besideNone() {
        new Run().due(0, "build").dueAndNoMore("beside", new int[0]);
        new Run().dueAndNoMore("beside", new int[0]);
        Run.eightFull().due(408, "build").due(0, "beside", 407).refused("beside", 408).refused("beside", -1);
    }

    private static void commonOfTwo() {
        Run.busy().due(3, "common", 0, 2).due(3, "common", 2, 0).due(2, "common", 1, 6).due(2, "common", 6, 1)
            .due(0, "common", 0, 1).due(0, "common", 5, 8).due(0, "common", 0, 8).due(0, "common", 8, 0)
            .due(0, "common", 4, 5).due(1, "common", 4, 7).due(5, "common", 0, 0).due(0, "common", 8, 8);
        Run.alike(400).due(401, "build").due(399, "common", 0, 1).due(399, "common", 1, 0).due(1, "common", 0, 399)
            .due(0, "common", 0, 400).due(0, "common", 400, 399);
    }

    private static void commonNone() {
        for (int p : NO_INDEXES_OF_NINE) {
            Run.busy().refused("common", p, 0).refused("common", 8, p).refused("common", p, p);
        }
        new Run().due(0, "build").refused("common", 0, 0);
        Run.eightFull().due(408, "build").due(0, "common", 407, 407).refused("common", 408, 407)
            .refused("common", 407, 408).refused("common", 408, 408).refused("common", -1, 0).refused("common", 0, -1);
    }

    private static void copyAndLength() {
        Run.busy().dueAndNoMore("copy", new int[] {NONE, NONE, 0, 1, 0, NONE, 1, 0, NONE}, 0)
            .dueAndNoMore("copy", new int[] {0, 0, 3, 2, 1, 0, 2, 1, 0}, 1);
        new Run().text(2, 0).due(2, "build").dueAndNoMore("copy", new int[] {NONE, NONE}, 0)
            .dueAndNoMore("copy", new int[] {0, 0}, 1);
        Run.alike(400).due(401, "build").due(0, "copy", 1, 0).due(399, "copy", 1, 1).due(0, "copy", 2, 0)
            .due(398, "copy", 2, 1).due(NONE, "copy", 400, 0).due(0, "copy", 400, 1);
    }

    /** Both texts are 5 5: the first has 5 and 5, the second is one copy; no piece goes on behind an END. */
    private static void piecesToEnd() {
        Run.busy().dueAndNoMore("copy", new int[] {3, 2, 1, 1, 1, 0, 1, 1, 0}, 2);
        new Run().text(0, 5, 5).text(1, 5, 5).due(6, "build").dueAndNoMore("copy", new int[] {2, 1, 0, 1, 1, 0}, 2);
        Run.alike(400).due(401, "build").due(2, "copy", 0, 2).due(1, "copy", 1, 2).due(1, "copy", 399, 2);
        Run full = Run.eightFull().due(408, "build");
        for (int text = 0; text < 8; text++) {
            full.due(50, "copy", 51 * text, 2).due(1, "copy", 51 * text + 49, 2);
        }
    }

    private static void piecesWithoutEnd() {
        new Run().text(2, 0).due(2, "build").dueAndNoMore("copy", new int[] {1, 0}, 2);
        Run full = Run.eightFull().due(408, "build");
        for (int text = 0; text < 8; text++) {
            full.due(0, "copy", 51 * text + 50, 2);
        }
    }

    /** TEXT 2 is 2, then 1 2 9, then 1: the second piece is all that TEXT 1 has, and ends where that ends. */
    private static void piecesLong() {
        Run run = new Run().text(0, 1, 2, 3).text(1, 1, 2, 9).text(2, 2, 1, 2, 9, 1).due(14, "build");
        run.dueAndNoMore("copy", new int[] {3, 2, 1, 0, 2, 2, 1, 0, 3, 2, 2, 2, 1, 0}, 2);
        run.dueAndNoMore("copy", new int[] {0, 0, 0, 0, 2, 1, 0, 0, 1, 3, 2, 1, 1, 0}, 1);
        new Run().text(4, 7, 7, 7, 7, 8).due(6, "build").dueAndNoMore("copy", new int[] {3, 2, 2, 2, 1, 0}, 2);
    }

    private static void piecesOfOne() {
        Run run = new Run();
        int[] signs = new int[400];
        for (int k = 0; k < 400; k++) {
            signs[k] = 999 - k;
        }
        run.text(7, signs).due(401, "build").due(400, "copy", 0, 2).due(399, "copy", 1, 2).due(1, "copy", 399, 2)
            .due(0, "copy", 400, 2);
    }

    private static void copyNone() {
        for (int what : new int[] {-1, 3, Run.LEAST, Run.GREATEST}) {
            Run.busy().refused("copy", 0, what).refused("copy", 2, what).refused("copy", 8, what)
                .refused("copy", 9, what);
        }
        for (int what = 0; what < 3; what++) {
            new Run().due(0, "build").dueAndNoMore("copy", new int[0], what);
            new Run().dueAndNoMore("copy", new int[0], what);
            Run.eightFull().due(408, "build").refused("copy", 408, what).refused("copy", -1, what);
        }
    }
}
