import java.util.EnumSet;

/** The bounds that promises 1 to 6 name: a new object, add, cut, build, sign, text. */
public final class BoundsOfTexts {
    private static final int NONE = Run.NONE;
    private static final int[] NO_TEXTS = {-1, 8, Run.LEAST, Run.GREATEST};
    private static final int[] NO_SIGNS = {-2, 1000, Run.LEAST, Run.GREATEST};
    private static final int[] SIGNS_OF_TWO_TEXTS = {5, 6, 5, 6, 5, -3, 6, 5, -6};

    public static void main(String[] args) {
        Sentences.of("NONE = -1", BoundsOfTexts::none);
        Sentences.of("1 new object: No SIGNS", BoundsOfTexts::newWithoutSigns);
        Sentences.of("1 new object: THE WHOLE empty", BoundsOfTexts::newWithoutPlaces);
        Sentences.of("1 new object: the PATTERN empty", BoundsOfTexts::newWithoutPattern);
        Sentences.of("1 new object: it has nothing of another", BoundsOfTexts::newBesideAnother);
        Sentences.of("2 add: Up to four SIGNS come, those that are NONE do not", BoundsOfTexts::addUpToFour);
        Sentences.of("2 add: behind those that the TEXT has", BoundsOfTexts::addBehind);
        Sentences.of("2 add: how many it has", BoundsOfTexts::addCounts);
        Sentences.of("2 add: NONE, and none comes: no such TEXT", BoundsOfTexts::addNoText);
        Sentences.of("2 add: NONE, and none comes: another number", BoundsOfTexts::addNoSign);
        Sentences.of("2 add: NONE, and none comes: more than 400 in all", BoundsOfTexts::addTooMany);
        Sentences.of("3 cut: A TEXT's last n SIGNS go: how many it has", BoundsOfTexts::cutLast);
        Sentences.of("3 cut: none, all", BoundsOfTexts::cutNoneAndAll);
        Sentences.of("3 cut: NONE: no such TEXT", BoundsOfTexts::cutNoText);
        Sentences.of("3 cut: NONE: not so many", BoundsOfTexts::cutNotSoMany);
        Sentences.of("4 build: how many PLACES it has", BoundsOfTexts::buildCounts);
        Sentences.of("4 build: THE WHOLE and all of it are made", BoundsOfTexts::buildMakesAll);
        Sentences.of("4 build: the TEXTS and the PATTERN stay", BoundsOfTexts::buildKeeps);
        Sentences.of("5 sign: SIGN at a PLACE", BoundsOfTexts::signAtPlace);
        Sentences.of("5 sign: - 2 less its TEXT's number at an END", BoundsOfTexts::signAtEnd);
        Sentences.of("5 sign: NONE: no such PLACE", BoundsOfTexts::signNoPlace);
        Sentences.of("6 text: The TEXT in which a PLACE is", BoundsOfTexts::textNumber);
        Sentences.of("6 text: how many PLACES of that are before it", BoundsOfTexts::textBefore);
        Sentences.of("6 text: NONE", BoundsOfTexts::textNone);
        Sentences.close();
    }

    private static void none() {
        Sentences.due("NONE", SuffixRows.NONE, -1);
    }

    private static void newWithoutSigns() {
        Run run = new Run();
        for (int text = 0; text < 8; text++) {
            run.due(0, "cut", text, 0).refused("cut", text, 1);
        }
        run.due(0, "build");
        Run.alike(400).due(401, "build");
    }

    private static void newWithoutPlaces() {
        Run run = new Run();
        for (String name : new String[] {"sign", "at", "rank", "beside", "where", "before", "back"}) {
            run.refused(name, 0);
        }
        for (String name : new String[] {"text", "common", "copy", "swap", "tell"}) {
            run.refused(name, 0, 0);
        }
        run.refused("steps", 0, 1).due(0, "different").due(0, "judge").due(0, "find", 0).due(0, "repeats", 1, 1)
            .due(0, "longest", 2, 0).due(0, "shared", 1, 0);
    }

    private static void newWithoutPattern() {
        new Run().due(0, "wipe");
        new Run().text(3, 5).due(2, "build").due(2, "find", 0).due(0, "wipe");
        new Run().due(1, "pattern", 5, NONE, NONE, NONE);
    }

    private static void newBesideAnother() {
        Run one = Run.twoTexts().due(1, "pattern", 5, NONE, NONE, NONE).due(5, "tell", 0, 1);
        Run other = new Run().due(0, "judge").due(0, "wipe").due(0, "build").due(0, "cut", 1, 0);
        other.text(1, 9).due(2, "build").due(9, "sign", 0).due(2, "find", 0);
        one.due(4, "find", 0).due(1, "tell", 0, 5).due(9, "judge").due(5, "cut", 1, 0);
    }

    /** Each of the four is a SIGN or NONE: sixteen ways. */
    private static void addUpToFour() {
        for (int way = 0; way < 16; way++) {
            int[] v = new int[4];
            int[] wants = new int[Integer.bitCount(way)];
            int count = 0;
            for (int k = 0; k < 4; k++) {
                v[k] = (way >> k) % 2 == 1 ? 10 * k : NONE;
                if (v[k] != NONE) {
                    wants[count] = v[k];
                    count++;
                }
            }
            new Run().due(count, "add", 6, v[0], v[1], v[2], v[3]).due(count == 0 ? 0 : count + 1, "build")
                .dueFromZero("sign", wants).due(count == 0 ? NONE : -8, "sign", count);
        }
    }

    private static void addBehind() {
        new Run().due(4, "add", 2, 1, 2, 3, 4).due(1, "add", 3, 9, NONE, NONE, NONE)
            .due(1, "add", 1, 8, NONE, NONE, NONE)
            .due(6, "add", 2, NONE, 0, 999, NONE).due(6, "add", 2, NONE, NONE, NONE, NONE).due(11, "build")
            .dueAndNoMore("sign", new int[] {8, -3, 1, 2, 3, 4, 0, 999, -4, 9, -5});
    }

    private static void addCounts() {
        Run.twoTexts().due(9, "add", 1, 1, 1, 1, 1).due(3, "add", 4, 1, NONE, NONE, NONE)
            .due(2, "add", 0, 1, 1, NONE, NONE).due(0, "add", 7, NONE, NONE, NONE, NONE)
            .due(9, "add", 1, NONE, NONE, NONE, NONE);
    }

    private static void addNoText() {
        for (int text : NO_TEXTS) {
            Run.busy().refused("add", text, 1, 2, 3, 4).refused("add", text, NONE, NONE, NONE, NONE)
                .refused("add", text, 1000, NONE, NONE, NONE);
            new Run().refused("add", text, 1, NONE, NONE, NONE).due(0, "build");
        }
    }

    private static void addNoSign() {
        for (int other : NO_SIGNS) {
            Run.busy().refused("add", 1, other, 5, 5, 5).refused("add", 1, 5, other, 5, 5)
                .refused("add", 1, 5, 5, other, 5).refused("add", 1, 5, 5, 5, other)
                .refused("add", 1, other, NONE, NONE, NONE).refused("add", 1, NONE, NONE, NONE, other)
                .refused("add", 1, other, other, other, other);
            new Run().refused("add", 0, 5, 5, 5, other).due(1, "add", 0, 5, NONE, NONE, NONE);
        }
    }

    private static void addTooMany() {
        Run.alike(400).refused("add", 0, 5, NONE, NONE, NONE).refused("add", 1, NONE, 5, NONE, NONE)
            .refused("add", 7, NONE, NONE, 5, NONE).refused("add", 7, 5, 5, 5, 5)
            .due(400, "add", 0, NONE, NONE, NONE, NONE).due(0, "add", 7, NONE, NONE, NONE, NONE).due(401, "build");
        Run.alike(397).refused("add", 7, 1, 2, 3, 4).due(3, "add", 7, 1, 2, 3, NONE)
            .refused("add", 7, NONE, NONE, NONE, 4).due(402, "build");
        Run.alike(396).due(400, "add", 0, 1, 2, 3, 4).refused("add", 0, NONE, NONE, NONE, 4).due(401, "build");
    }

    private static void cutLast() {
        Run.twoTexts().due(3, "cut", 1, 2).due(7, "build").dueAndNoMore("sign", new int[] {5, 6, 5, -3, 6, 5, -6});
        new Run().text(0, 1, 2, 3).text(1, 4, 5, 6).text(2, 7, 8, 9).due(1, "cut", 1, 2).due(10, "build")
            .dueAndNoMore("sign", new int[] {1, 2, 3, -2, 4, -3, 7, 8, 9, -4}).due(2, "add", 1, 0, NONE, NONE, NONE)
            .due(11, "build").due(0, "sign", 5).due(7, "sign", 7);
        new Run().text(0, 1, 2, 3).text(7, 4, 5, 6).due(2, "cut", 7, 1).due(2, "cut", 0, 1).due(6, "build")
            .dueAndNoMore("sign", new int[] {1, 2, -2, 4, 5, -9});
    }

    private static void cutNoneAndAll() {
        EnumSet<Run.Part> all = EnumSet.allOf(Run.Part.class);
        Run.busy().dueAndKeeps(all, 4, "cut", 1, 0).dueAndKeeps(all, 2, "cut", 4, 0).dueAndKeeps(all, 0, "cut", 7, 0);
        Run.busy().due(0, "cut", 1, 4).due(0, "cut", 1, 0).due(0, "cut", 0, 1).due(3, "build");
        Run.alike(400).due(401, "build").due(0, "cut", 0, 400).due(0, "build").due(4, "add", 5, 1, 1, 1, 1);
        Run.alike(400).due(1, "cut", 0, 399).due(2, "build");
    }

    private static void cutNoText() {
        for (int text : NO_TEXTS) {
            Run.busy().refused("cut", text, 0).refused("cut", text, 1).refused("cut", text, -1);
            new Run().refused("cut", text, 0);
        }
    }

    /** As many as another TEXT has are still not so many in this one. */
    private static void cutNotSoMany() {
        Run.busy().refused("cut", 1, 5).refused("cut", 4, 3).refused("cut", 4, 4).refused("cut", 0, 2)
            .refused("cut", 7, 1).refused("cut", 1, -1).refused("cut", 1, Run.LEAST).refused("cut", 1, Run.GREATEST)
            .due(0, "cut", 1, 4).refused("cut", 1, 1);
        Run.alike(400).refused("cut", 0, 401).refused("cut", 1, 400).due(0, "cut", 0, 400).refused("cut", 0, 1);
    }

    private static void buildCounts() {
        new Run().due(0, "build").due(0, "build");
        for (int text = 0; text < 8; text++) {
            new Run().text(text, 0).due(2, "build").due(2, "judge").due(2, "build");
        }
        Run.alike(400).due(401, "build");
        Run.eightFull().due(408, "build").due(408, "build").due(0, "cut", 7, 50).due(357, "build");
    }

    /** A lesser whole behind a greater one has nothing of it left, and the other way round. */
    private static void buildMakesAll() {
        Run run = Run.alike(400).due(401, "build").due(399, "longest", 2, 0);
        run.due(0, "cut", 0, 400).text(2, 6).due(2, "build").dueAndNoMore("sign", new int[] {6, -4})
            .dueAndNoMore("at", new int[] {1, 0}).dueAndNoMore("rank", new int[] {1, 0})
            .dueAndNoMore("beside", new int[] {0, 0})
            .dueAndNoMore("text", new int[] {2, 2}, 0).dueAndNoMore("text", new int[] {0, 1}, 1)
            .dueAndNoMore("copy", new int[] {NONE, NONE}, 0).dueAndNoMore("copy", new int[] {0, 0}, 1)
            .dueAndNoMore("copy", new int[] {1, 0}, 2).dueAndNoMore("where", new int[] {0, 1})
            .dueAndNoMore("before", new int[] {6, -4}).dueAndNoMore("back", new int[] {1, 0})
            .dueAndNoMore("steps", new int[] {1, 0}, 2).due(1, "different").due(0, "longest", 2, 0)
            .due(1, "shared", 1, 0).due(0, "shared", 2, 0).due(1, "repeats", 1, 1).due(2, "judge")
            .refused("common", 0, 2).due(1, "common", 0, 0);
        run.text(0, 6, 6).due(5, "build").dueAndNoMore("at", new int[] {2, 4, 1, 3, 0})
            .dueAndNoMore("beside", new int[] {0, 0, 0, 1, 1})
            .dueAndNoMore("copy", new int[] {NONE, 0, NONE, 0, NONE}, 0)
            .dueAndNoMore("copy", new int[] {2, 1, 0, 1, 0}, 2).due(5, "judge").due(1, "shared", 2, 0);
        run.due(1, "cut", 0, 1).due(0, "cut", 0, 1).due(0, "cut", 2, 1).due(0, "build").refused("at", 0).due(0, "judge")
            .due(0, "different").due(0, "find", 0).due(0, "shared", 1, 0);
    }

    private static void buildKeeps() {
        Run.twoTexts().due(2, "pattern", 6, 5, NONE, NONE).dueAndKeeps(EnumSet.allOf(Run.Part.class), 9, "build");
        Run.busy().dueAndKeeps(EnumSet.of(Run.Part.TEXTS), 10, "build").due(2, "pattern", NONE, NONE, NONE, NONE)
            .due(2, "find", 0).due(3, "find", 3).due(2, "wipe").due(1, "cut", 0, 0).due(4, "cut", 1, 0);
    }

    private static void signAtPlace() {
        Run.twoTexts().dueAndNoMore("sign", SIGNS_OF_TWO_TEXTS);
        new Run().text(0, 0, 999).text(7, 999, 0).due(6, "build")
            .dueAndNoMore("sign", new int[] {0, 999, -2, 999, 0, -9});
    }

    private static void signAtEnd() {
        for (int text = 0; text < 8; text++) {
            new Run().text(text, 1).due(2, "build").due(-2 - text, "sign", 1);
        }
        Run full = Run.eightFull().due(408, "build");
        for (int text = 0; text < 8; text++) {
            full.due(-2 - text, "sign", 51 * text + 50).due(50 * text + 49, "sign", 51 * text + 49);
        }
    }

    private static void signNoPlace() {
        new Run().due(0, "build").dueAndNoMore("sign", new int[0]);
        Run.busy().dueAndNoMore("sign", SIGNS_OF_TWO_TEXTS);
        Run.eightFull().due(408, "build").refused("sign", 408).refused("sign", -1).due(-9, "sign", 407)
            .due(0, "sign", 0);
    }

    private static void textNumber() {
        Run.busy().dueAndNoMore("text", new int[] {1, 1, 1, 1, 1, 1, 4, 4, 4}, 0);
        Run full = Run.eightFull().due(408, "build").refused("text", 408, 0).refused("text", -1, 0);
        for (int text = 0; text < 8; text++) {
            full.due(text, "text", 51 * text, 0).due(text, "text", 51 * text + 50, 0);
        }
    }

    private static void textBefore() {
        Run.busy().dueAndNoMore("text", new int[] {0, 1, 2, 3, 4, 5, 0, 1, 2}, 1);
        Run.alike(400).due(401, "build").due(0, "text", 0, 1).due(400, "text", 400, 1).refused("text", 401, 1);
        Run full = Run.eightFull().due(408, "build");
        for (int text = 0; text < 8; text++) {
            full.due(0, "text", 51 * text, 1).due(50, "text", 51 * text + 50, 1);
        }
    }

    private static void textNone() {
        for (int what : new int[] {-1, 2, Run.LEAST, Run.GREATEST}) {
            Run.busy().refused("text", 0, what).refused("text", 8, what).refused("text", 9, what);
        }
        new Run().due(0, "build").refused("text", 0, 0).refused("text", 0, 1);
    }
}
