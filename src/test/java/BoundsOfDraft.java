import java.util.EnumSet;

/** The bounds that promises 20 to 25 name: before, back, steps, swap, tell, judge. */
public final class BoundsOfDraft {
    private static final int NONE = Run.NONE;
    private static final int[] NO_INDEXES_OF_NINE = {-1, 9, Run.LEAST, Run.GREATEST};
    private static final int[] ROW_OF_TWO_TEXTS = {5, 8, 4, 7, 2, 0, 3, 6, 1};
    private static final EnumSet<Run.Part> ALL_BUT_DRAFT = EnumSet.complementOf(EnumSet.of(Run.Part.DRAFT));

    public static void main(String[] args) {
        Sentences.of("20 before: SIGN (END as in sign()) before the PLACE at i", BoundsOfDraft::beforeSign);
        Sentences.of("20 before: before PLACE 0 is the last END", BoundsOfDraft::beforeZero);
        Sentences.of("20 before: NONE", BoundsOfDraft::beforeNone);
        Sentences.of("21 back: Where the PLACE one step BACKWARD is in THE ROW", BoundsOfDraft::backInRow);
        Sentences.of("21 back: as many steps as PLACES go round", BoundsOfDraft::backGoesRound);
        Sentences.of("21 back: NONE", BoundsOfDraft::backNone);
        Sentences.of("22 steps: How many steps BACKWARD the first KEPT one is", BoundsOfDraft::stepsToKept);
        Sentences.of("22 steps: (0: it is itself)", BoundsOfDraft::stepsToItself);
        Sentences.of("22 steps: NONE: no such i", BoundsOfDraft::stepsNoIndex);
        Sentences.of("22 steps: NONE: no such e", BoundsOfDraft::stepsNoDistance);
        Sentences.of("23 swap: Numbers i and j are exchanged: 1", BoundsOfDraft::swapExchanges);
        Sentences.of("23 swap: a number with itself", BoundsOfDraft::swapWithItself);
        Sentences.of("23 swap: NONE: there are none such", BoundsOfDraft::swapNone);
        Sentences.of("24 tell: Number i becomes v: what it was", BoundsOfDraft::tellReplaces);
        Sentences.of("24 tell: v may be any number", BoundsOfDraft::tellAnyNumber);
        Sentences.of("24 tell: NONE: there is none such", BoundsOfDraft::tellNone);
        Sentences.of("25 judge: Where THE DRAFT is WRONG", BoundsOfDraft::judgeWrong);
        Sentences.of("25 judge: how many PLACES there are, if it is RIGHT", BoundsOfDraft::judgeRight);
        Sentences.close();
    }

    private static void beforeSign() {
        Run.busy().dueAndNoMore("before", new int[] {5, 5, 6, 6, 6, -6, 5, -3, 5});
        new Run().text(0, 0).text(7, 999).due(4, "build").dueAndNoMore("before", new int[] {0, 999, -9, -2});
    }

    private static void beforeZero() {
        for (int text = 0; text < 8; text++) {
            new Run().text(text, 4).due(2, "build").due(-2 - text, "before", 1).due(4, "before", 0);
        }
        for (int text = 1; text < 8; text++) {
            new Run().text(0, 4).text(text, 5).due(4, "build").due(-2 - text, "before", 2).due(-2, "before", 3);
        }
        Run.alike(400).due(401, "build").due(-2, "before", 400).due(5, "before", 0).due(5, "before", 399);
        Run.eightFull().due(408, "build").due(-9, "before", 8).due(49, "before", 0).due(399, "before", 7);
    }

    private static void beforeNone() {
        new Run().dueAndNoMore("before", new int[0]).due(0, "build").dueAndNoMore("before", new int[0]);
        Run.eightFull().due(408, "build").due(398, "before", 407).refused("before", 408).refused("before", -1);
    }

    private static void backInRow() {
        Run.busy().dueAndNoMore("back", new int[] {2, 3, 6, 7, 8, 1, 4, 0, 5});
        new Run().text(0, 0).text(7, 999).due(4, "build").dueAndNoMore("back", new int[] {2, 3, 1, 0});
        Run.alike(400).due(401, "build").due(1, "back", 0).due(0, "back", 400).due(400, "back", 399);
    }

    /** From PLACE 0 the first step goes to the last PLACE, 408 steps come to PLACE 0 again. */
    private static void backGoesRound() {
        int[] ranks = new int[408];
        for (int p = 0; p < 408; p++) {
            ranks[p] = p % 51 == 50 ? p / 51 : 8 + p - p / 51;
        }
        Run first = Run.eightFull().due(408, "build");
        Run second = Run.eightFull().due(408, "build");
        for (int p = 0; p < 408; p++) {
            (p < 204 ? first : second).due(ranks[p == 0 ? 407 : p - 1], "back", ranks[p]);
        }
    }

    private static void backNone() {
        new Run().dueAndNoMore("back", new int[0]).due(0, "build").dueAndNoMore("back", new int[0]);
        Run.eightFull().due(408, "build").due(406, "back", 407).refused("back", 408).refused("back", -1);
    }

    private static void stepsToKept() {
        Run.busy().dueAndNoMore("steps", new int[] {2, 2, 1, 1, 2, 0, 0, 0, 1}, 3);
        Run.busy().dueAndNoMore("steps", new int[] {1, 0, 0, 3, 2, 0, 3, 2, 1}, 4);
        Run.busy().dueAndNoMore("steps", ROW_OF_TWO_TEXTS, 9);
        Run.busy().dueAndNoMore("steps", ROW_OF_TWO_TEXTS, 64);
        Run.alike(400).due(401, "build").due(16, "steps", 0, 64).due(63, "steps", 400 - 383, 64)
            .due(63, "steps", 400 - 63, 64).due(62, "steps", 400 - 62, 63).due(1, "steps", 1, 2);
    }

    private static void stepsToItself() {
        Run.busy().dueAndNoMore("steps", new int[9], 1);
        Run.busy().due(0, "steps", 5, 64).due(0, "steps", 1, 8).due(0, "steps", 1, 4);
        Run.alike(400).due(401, "build").due(0, "steps", 400, 64).due(0, "steps", 400 - 64, 64)
            .due(0, "steps", 400 - 384, 64).due(0, "steps", 0, 50).due(0, "steps", 0, 1);
    }

    private static void stepsNoIndex() {
        for (int e : new int[] {1, 2, 64}) {
            for (int i : NO_INDEXES_OF_NINE) {
                Run.busy().refused("steps", i, e);
            }
            new Run().refused("steps", 0, e).due(0, "build").refused("steps", 0, e);
            Run.eightFull().due(408, "build").due(406 % e, "steps", 407, e).refused("steps", 408, e)
                .refused("steps", -1, e);
        }
    }

    private static void stepsNoDistance() {
        for (int e : new int[] {0, -1, -64, 65, Run.LEAST, Run.GREATEST}) {
            Run.busy().refused("steps", 0, e).refused("steps", 5, e).refused("steps", 9, e);
            new Run().refused("steps", 0, e);
        }
    }

    private static void swapExchanges() {
        Run.twoTexts().dueAndKeeps(ALL_BUT_DRAFT, 1, "swap", 0, 8).due(1, "tell", 0, 77).due(5, "tell", 8, 78)
            .due(8, "tell", 1, 8).due(6, "tell", 7, 6).due(1, "swap", 8, 0).due(78, "tell", 0, 0)
            .due(77, "tell", 8, 0);
        Run.eightFull().due(408, "build").due(1, "swap", 0, 407).due(406, "tell", 0, 406).due(50, "tell", 407, 50)
            .due(1, "judge").due(1, "swap", 407, 0).due(408, "judge");
    }

    private static void swapWithItself() {
        EnumSet<Run.Part> all = EnumSet.allOf(Run.Part.class);
        for (int i : new int[] {0, 4, 8}) {
            Run.busy().dueAndKeeps(all, 1, "swap", i, i);
            Run.twoTexts().due(1, "swap", i, i).due(9, "judge").due(ROW_OF_TWO_TEXTS[i], "tell", i, 0);
        }
    }

    private static void swapNone() {
        for (int i : NO_INDEXES_OF_NINE) {
            Run.busy().refused("swap", i, 0).refused("swap", 0, i).refused("swap", 8, i).refused("swap", i, 8)
                .refused("swap", i, i);
        }
        new Run().refused("swap", 0, 0).due(0, "build").refused("swap", 0, 0);
        Run.eightFull().due(408, "build").refused("swap", 408, 0).refused("swap", 0, 408).refused("swap", 408, 408)
            .refused("swap", -1, 0);
    }

    private static void tellReplaces() {
        Run run = Run.twoTexts();
        for (int i = 0; i < 9; i++) {
            run.dueAndKeeps(ALL_BUT_DRAFT, ROW_OF_TWO_TEXTS[i], "tell", i, 100 + i);
        }
        for (int i = 0; i < 9; i++) {
            run.due(100 + i, "tell", i, ROW_OF_TWO_TEXTS[i]);
        }
        run.due(9, "judge");
        Run.eightFull().due(408, "build").due(50, "tell", 0, 407).due(407, "tell", 0, 50).due(406, "tell", 407, 0)
            .due(0, "tell", 407, 406).due(408, "judge");
    }

    /** Also one that is no PLACE, and NONE: then the next tell() answers it as what the number was. */
    private static void tellAnyNumber() {
        Run.twoTexts().due(2, "tell", 4, Run.LEAST).due(Run.LEAST, "tell", 4, Run.GREATEST)
            .due(Run.GREATEST, "tell", 4, -1).due(-1, "tell", 4, 9).due(9, "tell", 4, 8).due(8, "tell", 4, 0)
            .due(0, "tell", 4, 2).due(2, "tell", 4, 2).due(9, "judge");
    }

    private static void tellNone() {
        for (int i : NO_INDEXES_OF_NINE) {
            Run.busy().refused("tell", i, 0).refused("tell", i, -1).refused("tell", i, 9);
        }
        new Run().refused("tell", 0, 0).due(0, "build").refused("tell", 0, 0);
        Run.eightFull().due(408, "build").refused("tell", 408, 0).refused("tell", -1, 0);
    }

    private static void judgeWrong() {
        for (int i = 0; i < 9; i++) {
            for (int number : new int[] {-1, 9, Run.LEAST, Run.GREATEST}) {
                Run.twoTexts().due(ROW_OF_TWO_TEXTS[i], "tell", i, number).due(i, "judge").due(i, "judge");
            }
        }
        Run.twoTexts().due(1, "swap", 7, 8).due(8, "judge").due(1, "swap", 0, 1).due(1, "judge");
        Run.eightFull().due(408, "build").due(406, "tell", 407, 408).due(407, "judge").due(50, "tell", 0, 408)
            .due(0, "judge");
        Run.eightFull().due(408, "build").due(1, "swap", 406, 407).due(407, "judge");
        new Run().text(0, 3).due(2, "build").due(1, "swap", 0, 1).due(1, "judge").due(1, "tell", 1, 0)
            .due(1, "judge").due(0, "tell", 0, 2).due(0, "judge");
    }

    private static void judgeRight() {
        EnumSet<Run.Part> all = EnumSet.allOf(Run.Part.class);
        new Run().due(0, "judge").due(0, "build").due(0, "judge");
        new Run().text(0, 3).due(0, "judge").due(2, "build").due(2, "judge");
        Run.twoTexts().dueAndKeeps(all, 9, "judge").due(5, "tell", 0, 5).due(9, "judge");
        Run.busy().dueAndKeeps(all, 4, "judge");
        Run.alike(400).due(401, "build").due(401, "judge");
        Run.eightFull().due(408, "build").due(408, "judge").due(0, "cut", 0, 50).due(408, "judge").due(357, "build")
            .due(357, "judge");
    }
}
