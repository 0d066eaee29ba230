import java.util.EnumSet;

/** The bounds that promises 12 to 15 name: pattern, wipe, find, where. */
public final class BoundsOfPattern {
    private static final int NONE = Run.NONE;
    private static final int[] NO_SIGNS = {-2, 1000, Run.LEAST, Run.GREATEST};
    private static final int[] NOWHERE_IN_NOTHING = {0, 0, 0, NONE, NONE, 0};

    public static void main(String[] args) {
        Sentences.of("12 pattern: Up to four SIGNS (not NONE) come", BoundsOfPattern::patternUpToFour);
        Sentences.of("12 pattern: how many it has", BoundsOfPattern::patternCounts);
        Sentences.of("12 pattern: NONE: as add(): another number", BoundsOfPattern::patternNoSign);
        Sentences.of("12 pattern: NONE: as add(), but 40", BoundsOfPattern::patternTooMany);
        Sentences.of("12 pattern: TEXTS, THE WHOLE and THE DRAFT stay", BoundsOfPattern::patternKeeps);
        Sentences.of("13 wipe: The PATTERN is empty", BoundsOfPattern::wipeEmpties);
        Sentences.of("13 wipe: how many it had", BoundsOfPattern::wipeCounts);
        Sentences.of("14 find: At how many PLACES the PATTERN STANDS", BoundsOfPattern::findPlaces);
        Sentences.of("14 find: where the first of them is in THE ROW", BoundsOfPattern::findFirst);
        Sentences.of("14 find: where it would be, if it stands nowhere", BoundsOfPattern::findWouldBe);
        Sentences.of("14 find: in how many TEXTS", BoundsOfPattern::findTexts);
        Sentences.of("14 find: the least PLACE (NONE)", BoundsOfPattern::findLeast);
        Sentences.of("14 find: the greatest one (NONE)", BoundsOfPattern::findGreatest);
        Sentences.of("14 find: the longest beginning of it that STANDS", BoundsOfPattern::findBeginning);
        Sentences.of("14 find: NONE: another what", BoundsOfPattern::findNone);
        Sentences.of("14 find: in a WHOLE that is empty", BoundsOfPattern::findInNothing);
        Sentences.of("15 where: The k-th PLACE (from 0, by size)", BoundsOfPattern::whereBySize);
        Sentences.of("15 where: NONE", BoundsOfPattern::whereNone);
        Sentences.close();
    }

    private static Run seeking(Run run, int... signs) {
        for (int k = 0; k < signs.length; k++) {
            run.due(k + 1, "pattern", signs[k], NONE, NONE, NONE);
        }
        return run;
    }

    private static Run seekingInTwoTexts(int... signs) {
        return seeking(Run.twoTexts(), signs);
    }

    /** Each of the four is a SIGN or NONE: sixteen ways; what came stands in a text that has just that. */
    private static void patternUpToFour() {
        for (int way = 0; way < 16; way++) {
            Run run = new Run();
            int[] v = new int[4];
            int count = 0;
            for (int k = 0; k < 4; k++) {
                v[k] = (way >> k) % 2 == 1 ? 333 * k : NONE;
                if (v[k] != NONE) {
                    count++;
                    run.due(count, "add", 3, v[k], NONE, NONE, NONE);
                }
            }
            int places = count == 0 ? 0 : count + 1;
            run.due(places, "build").due(count, "pattern", v).due(count == 0 ? 0 : 1, "find", 0).due(count, "find", 5)
                .due(count == 0 ? NONE : 0, "find", 3).due(count, "wipe");
        }
    }

    private static void patternCounts() {
        Run.twoTexts().due(0, "pattern", NONE, NONE, NONE, NONE).due(1, "pattern", 5, NONE, NONE, NONE)
            .due(3, "pattern", NONE, 6, NONE, 5).due(2, "find", 0).due(3, "pattern", NONE, NONE, NONE, NONE)
            .due(2, "find", 0).due(7, "pattern", 1, 2, 3, 4).due(0, "find", 0);
    }

    private static void patternNoSign() {
        for (int other : NO_SIGNS) {
            Run.busy().refused("pattern", other, 5, 5, 5).refused("pattern", 5, other, 5, 5)
                .refused("pattern", 5, 5, other, 5).refused("pattern", 5, 5, 5, other)
                .refused("pattern", other, NONE, NONE, NONE).refused("pattern", NONE, NONE, NONE, other)
                .refused("pattern", other, other, other, other).due(3, "find", 0).due(2, "wipe");
            new Run().refused("pattern", 5, other, NONE, NONE).due(0, "wipe");
        }
    }

    private static void patternTooMany() {
        Run full = Run.alike(50).due(51, "build").sought(40, 5).due(11, "find", 0);
        full.refused("pattern", 5, NONE, NONE, NONE).refused("pattern", NONE, 5, NONE, NONE)
            .refused("pattern", NONE, NONE, 5, NONE).refused("pattern", NONE, NONE, NONE, 5)
            .refused("pattern", 5, 5, 5, 5).due(40, "pattern", NONE, NONE, NONE, NONE).due(40, "find", 5)
            .due(40, "wipe");
        Run.alike(50).due(51, "build").sought(37, 5).refused("pattern", 5, 5, 5, 5).due(40, "pattern", 5, 5, NONE, 5)
            .due(11, "find", 0);
        Run.alike(50).due(51, "build").sought(36, 5).due(40, "pattern", 5, 5, 5, 5)
            .refused("pattern", NONE, NONE, NONE, 5);
        new Run().sought(40, 5).refused("pattern", 5, NONE, NONE, NONE).due(40, "wipe").sought(40, 6)
            .refused("pattern", 6, NONE, NONE, NONE);
    }

    private static void patternKeeps() {
        EnumSet<Run.Part> others = EnumSet.of(Run.Part.TEXTS, Run.Part.WHOLE, Run.Part.DRAFT);
        Run.busy().dueAndKeeps(others, 6, "pattern", 5, 6, 5, 0).dueAndKeeps(others, 6, "wipe")
            .dueAndKeeps(EnumSet.allOf(Run.Part.class), 0, "wipe")
            .dueAndKeeps(EnumSet.allOf(Run.Part.class), 0, "pattern", NONE, NONE, NONE, NONE);
    }

    private static void wipeEmpties() {
        seekingInTwoTexts(6, 5, 6).due(1, "find", 0).due(3, "wipe").dueFromZero("find", new int[] {9, 0, 2, 0, 8, 0})
            .due(1, "pattern", 5, NONE, NONE, NONE).due(4, "find", 0).due(1, "wipe").due(0, "wipe").due(9, "find", 0);
    }

    private static void wipeCounts() {
        new Run().due(0, "wipe").due(0, "wipe").due(4, "pattern", 1, 2, 3, 4).due(4, "wipe").due(0, "wipe");
        new Run().sought(40, 1).due(40, "wipe").due(0, "wipe").sought(40, 1).due(40, "wipe");
        new Run().sought(39, 1).refused("pattern", 1, 1, NONE, NONE).due(39, "wipe");
    }

    private static void findPlaces() {
        Run.twoTexts().due(9, "find", 0);
        seekingInTwoTexts(5).due(4, "find", 0);
        seekingInTwoTexts(5, 6, 5, 6, 5).due(1, "find", 0);
        seekingInTwoTexts(5, 6, 5, 6, 5, 6).due(0, "find", 0);
        seekingInTwoTexts(4).due(0, "find", 0);
        Run.alike(400).due(401, "build").due(401, "find", 0).sought(40, 5).due(361, "find", 0);
        Run.alike(40).due(41, "build").sought(40, 5).due(1, "find", 0);
        Run.alike(39).due(40, "build").sought(40, 5).due(0, "find", 0).due(39, "find", 5).due(40, "find", 1);
    }

    private static void findFirst() {
        Run.twoTexts().due(0, "find", 1);
        seekingInTwoTexts(5).due(2, "find", 1);
        seekingInTwoTexts(5, 6).due(4, "find", 1);
        seekingInTwoTexts(6).due(6, "find", 1);
        seekingInTwoTexts(6, 5, 6).due(8, "find", 1);
        Run.alike(400).due(401, "build").sought(40, 5).due(40, "find", 1);
    }

    /** Before all SIGNS is still behind all ENDS; behind all is as many as there are PLACES. */
    private static void findWouldBe() {
        seekingInTwoTexts(0).due(2, "find", 1);
        seekingInTwoTexts(4).due(2, "find", 1);
        seekingInTwoTexts(5, 5).due(4, "find", 1);
        seekingInTwoTexts(5, 6, 6).due(6, "find", 1);
        seekingInTwoTexts(5, 7).due(6, "find", 1);
        seekingInTwoTexts(6, 5, 5).due(8, "find", 1);
        seekingInTwoTexts(6, 5, 6, 5, 6).due(9, "find", 1);
        seekingInTwoTexts(7).due(9, "find", 1);
        seekingInTwoTexts(999).due(9, "find", 1);
        seeking(Run.eightFull().due(408, "build"), 999).due(408, "find", 1);
        seeking(new Run().text(0, 1).text(7, 1).due(4, "build"), 0).due(2, "find", 1);
    }

    private static void findTexts() {
        Run.twoTexts().due(2, "find", 2);
        seekingInTwoTexts(5).due(2, "find", 2);
        seekingInTwoTexts(5, 6).due(1, "find", 2);
        seekingInTwoTexts(4).due(0, "find", 2);
        Run run = new Run();
        for (int text = 0; text < 8; text++) {
            run.text(text, text, 500, text, 500);
        }
        run.due(40, "build").due(8, "find", 2).due(1, "pattern", 500, NONE, NONE, NONE).due(8, "find", 2)
            .due(16, "find", 0).due(2, "pattern", 7, NONE, NONE, NONE).due(1, "find", 2).due(1, "find", 0);
    }

    private static void findLeast() {
        Run.twoTexts().due(0, "find", 3);
        seekingInTwoTexts(6).due(1, "find", 3);
        seekingInTwoTexts(6, 5, 6).due(1, "find", 3);
        seekingInTwoTexts(5, 6, 6).due(NONE, "find", 3);
        new Run().due(0, "build").due(NONE, "find", 3);
        seeking(Run.eightFull().due(408, "build"), 399).due(406, "find", 3);
        seeking(Run.eightFull().due(408, "build"), 0).due(0, "find", 3);
    }

    private static void findGreatest() {
        Run.twoTexts().due(8, "find", 4);
        seekingInTwoTexts(6).due(6, "find", 4);
        seekingInTwoTexts(6, 5, 6).due(1, "find", 4);
        seekingInTwoTexts(5, 6, 6).due(NONE, "find", 4);
        new Run().due(0, "build").due(NONE, "find", 4);
        Run.eightFull().due(408, "build").due(407, "find", 4);
        seeking(Run.eightFull().due(408, "build"), 0).due(0, "find", 4);
    }

    /** The longest beginning may stand above or below where the PATTERN would be. */
    private static void findBeginning() {
        Run.twoTexts().due(0, "find", 5);
        seekingInTwoTexts(4).due(0, "find", 5);
        seekingInTwoTexts(999).due(0, "find", 5);
        seeking(Run.eightFull().due(408, "build"), 999).due(0, "find", 5);
        seeking(Run.eightFull().due(408, "build"), 399, 0).due(1, "find", 5).due(408, "find", 1);
        seekingInTwoTexts(5).due(1, "find", 5);
        seekingInTwoTexts(5, 4).due(1, "find", 5);
        seekingInTwoTexts(5, 7).due(1, "find", 5);
        seekingInTwoTexts(5, 6, 5, 6, 5).due(5, "find", 5);
        seekingInTwoTexts(5, 6, 5, 6, 4).due(4, "find", 5);
        seekingInTwoTexts(5, 6, 5, 6, 5, 5).due(5, "find", 5);
        seekingInTwoTexts(6, 4, 6, 5).due(1, "find", 5);
        seeking(new Run().text(0, 1, 2, 3).text(1, 1, 9).due(7, "build"), 1, 2, 2).due(2, "find", 5);
        seeking(new Run().text(0, 1, 2, 3).text(1, 1, 9).due(7, "build"), 1, 2, 4).due(2, "find", 5);
    }

    private static void findNone() {
        for (int what : new int[] {-1, 6, Run.LEAST, Run.GREATEST}) {
            Run.busy().refused("find", what);
            Run.twoTexts().refused("find", what);
            new Run().refused("find", what);
        }
        seekingInTwoTexts(6, 5).dueFromZero("find", new int[] {3, 6, 2, 1, 6, 2, NONE});
    }

    private static void findInNothing() {
        new Run().dueFromZero("find", NOWHERE_IN_NOTHING).due(0, "build").dueFromZero("find", NOWHERE_IN_NOTHING)
            .sought(40, 0).dueFromZero("find", NOWHERE_IN_NOTHING);
        seekingInTwoTexts(5).due(0, "cut", 1, 5).due(0, "cut", 4, 2).due(0, "build")
            .dueFromZero("find", NOWHERE_IN_NOTHING).dueAndNoMore("where", new int[0]);
    }

    private static void whereBySize() {
        Run.twoTexts().dueAndNoMore("where", new int[] {0, 1, 2, 3, 4, 5, 6, 7, 8});
        seekingInTwoTexts(5).dueAndNoMore("where", new int[] {0, 2, 4, 7});
        seekingInTwoTexts(6).dueAndNoMore("where", new int[] {1, 3, 6});
        seekingInTwoTexts(5, 6, 5, 6).dueAndNoMore("where", new int[] {0});
        Run.alike(400).due(401, "build").sought(40, 5).due(0, "where", 0).due(360, "where", 360)
            .refused("where", 361);
        Run.eightFull().due(408, "build").due(0, "where", 0).due(407, "where", 407).refused("where", 408);
    }

    private static void whereNone() {
        seekingInTwoTexts(5, 5).dueAndNoMore("where", new int[0]);
        seekingInTwoTexts(0).dueAndNoMore("where", new int[0]);
        new Run().dueAndNoMore("where", new int[0]).due(0, "build").dueAndNoMore("where", new int[0]);
    }
}
