import java.util.EnumSet;

/** The sentences of the document's "Terms" that name a bound, each with what is at it and what is beyond it. */
public final class BoundsOfTerms {
    private static final int NONE = Run.NONE;
    private static final int[] NO_SIGNS = {-2, 1000, Run.LEAST, Run.GREATEST};
    private static final int[] ROW_OF_TWO_TEXTS = {5, 8, 4, 7, 2, 0, 3, 6, 1};

    public static void main(String[] args) {
        Sentences.of("An object is used for at most 512 calls", BoundsOfTerms::calls512);
        Sentences.of("TEXTS 0 .. 7", BoundsOfTerms::textNumbers);
        Sentences.of("rows of SIGNS (0 .. 999)", BoundsOfTerms::signNumbers);
        Sentences.of("400 in all", BoundsOfTerms::fourHundred);
        Sentences.of("400 in all: room again behind cut()", BoundsOfTerms::roomAgain);
        Sentences.of("all TEXTS that are not empty, by numbers, each with an END", BoundsOfTerms::textsNotEmpty);
        Sentences.of("all TEXTS that are not empty: emptied ones", BoundsOfTerms::textsEmptied);
        Sentences.of("PLACES are counted from 0 through it", BoundsOfTerms::placesFromZero);
        Sentences.of("of the latest build(), whatever comes to the TEXTS then", BoundsOfTerms::latestBuild);
        Sentences.of("before any it is empty", BoundsOfTerms::beforeAnyBuild);
        Sentences.of("An END is less than all SIGNS", BoundsOfTerms::endBelowSigns);
        Sentences.of("of two ENDS the one that stands first is less", BoundsOfTerms::firstEndLess);
        Sentences.of("no two ENDS are alike", BoundsOfTerms::endsNotAlike);
        Sentences.of("THE SUFFIX goes to the next END, it too", BoundsOfTerms::suffixToEnd);
        Sentences.of("that one is less that has the lesser one where they first differ", BoundsOfTerms::firstDiffer);
        Sentences.of("where they first differ, as late as that can be", BoundsOfTerms::differLate);
        Sentences.of("THE ROW has all PLACES (ENDS first)", BoundsOfTerms::rowHasAll);
        Sentences.of("COMMON of a PLACE with itself: all to its END", BoundsOfTerms::commonWithItself);
        Sentences.of("A STRETCH is a row of 1 or more SIGNS", BoundsOfTerms::stretchOfOne);
        Sentences.of("side by side (no END among them)", BoundsOfTerms::stretchWithoutEnd);
        Sentences.of("It STANDS at a PLACE where its first SIGN is", BoundsOfTerms::stretchStands);
        Sentences.of("THE COPY: of all PLACES before p", BoundsOfTerms::copyBefore);
        Sentences.of("THE COPY: that one with which COMMON is greatest", BoundsOfTerms::copyGreatest);
        Sentences.of("THE COPY: of several the least", BoundsOfTerms::copyLeast);
        Sentences.of("THE COPY: NONE, and length 0, if COMMON with all is 0", BoundsOfTerms::copyNone);
        Sentences.of("THE PATTERN is a row of SIGNS (40 at most)", BoundsOfTerms::patternForty);
        Sentences.of("THE PATTERN: also ones that THE WHOLE has not", BoundsOfTerms::patternOfOthers);
        Sentences.of("it STANDS where it is the beginning of a SUFFIX", BoundsOfTerms::patternStands);
        Sentences.of("the empty one at all PLACES", BoundsOfTerms::patternEmpty);
        Sentences.of("the PLACE before p, of PLACE 0 the last one", BoundsOfTerms::backwardFromZero);
        Sentences.of("at distance e (1 .. 64)", BoundsOfTerms::distances);
        Sentences.of("PLACES that are multiples of e are KEPT", BoundsOfTerms::keptPlaces);
        Sentences.of("THE DRAFT: as many numbers as THE WHOLE has PLACES", BoundsOfTerms::draftSize);
        Sentences.of("THE DRAFT: at first (behind each build()) THE ROW", BoundsOfTerms::draftAtFirst);
        Sentences.of("It is RIGHT, if it is THE ROW", BoundsOfTerms::draftRight);
        Sentences.of("WRONG at the least i for which its first i + 1 numbers are not", BoundsOfTerms::draftLeastWrong);
        Sentences.of("WRONG: not PLACES", BoundsOfTerms::draftNotPlaces);
        Sentences.of("WRONG: not each once", BoundsOfTerms::draftNotOnce);
        Sentences.of("WRONG: not rising", BoundsOfTerms::draftNotRising);
        Sentences.of("Nothing beyond the state changes described: asking changes nothing", BoundsOfTerms::asking);
        Sentences.close();
    }

    private static int[] four(int place, int sign, int others) {
        int[] signs = {others, others, others, others};
        signs[place] = sign;
        return signs;
    }

    private static void calls512() {
        Run run = Run.alike(400).due(401, "build");
        for (int call = 102; call < 510; call++) {
            run.due(400, "cut", 0, 0);
        }
        run.due(399, "cut", 0, 1).due(400, "build").due(400, "judge");
    }

    private static void textNumbers() {
        for (int text : new int[] {0, 7}) {
            new Run().due(1, "add", text, 5, NONE, NONE, NONE).due(2, "build").due(text, "text", 0, 0)
                .due(0, "cut", text, 1).due(0, "build");
        }
        for (int text : new int[] {-1, 8, Run.LEAST, Run.GREATEST}) {
            Run.busy().refused("add", text, 5, NONE, NONE, NONE).refused("cut", text, 0).refused("cut", text, 1);
        }
    }

    private static void signNumbers() {
        for (int place = 0; place < 4; place++) {
            for (int sign : new int[] {0, 999}) {
                int[] v = four(place, sign, NONE);
                new Run().due(1, "add", 0, v[0], v[1], v[2], v[3]).due(2, "build").due(sign, "sign", 0)
                    .due(1, "pattern", v).due(1, "find", 0);
            }
            for (int other : NO_SIGNS) {
                int[] v = four(place, other, 5);
                Run.busy().refused("add", 1, v[0], v[1], v[2], v[3]).refused("pattern", v);
            }
        }
    }

    private static void fourHundred() {
        Run.alike(400).due(401, "build");
        Run.eightFull().due(408, "build").due(49, "sign", 49).due(-9, "sign", 407);
        for (int room = 0; room < 4; room++) {
            for (int more = 1; more <= 4; more++) {
                int[] v = {5, more > 1 ? 5 : NONE, more > 2 ? 5 : NONE, more > 3 ? 5 : NONE};
                for (int text : new int[] {0, 3, 7}) {
                    Run run = Run.alike(400 - room).due(401 - room, "build");
                    if (more > room) {
                        run.refused("add", text, v[0], v[1], v[2], v[3]);
                    } else {
                        int had = text == 0 ? 400 - room : 0;
                        run.due(had + more, "add", text, v[0], v[1], v[2], v[3]);
                    }
                }
            }
        }
        Run full = Run.eightFull();
        for (int text = 0; text < 8; text++) {
            full.refused("add", text, NONE, NONE, NONE, 0).due(50, "add", text, NONE, NONE, NONE, NONE);
        }
    }

    private static void roomAgain() {
        Run.eightFull().due(49, "cut", 2, 1).refused("add", 6, 9, 9, NONE, NONE).due(51, "add", 6, NONE, 9, NONE, NONE)
            .refused("add", 2, 9, NONE, NONE, NONE).due(0, "cut", 6, 51).due(49, "add", 2, NONE, NONE, NONE, NONE)
            .due(53, "add", 2, 1, 2, 3, 4).due(353 + 7, "build");
    }

    /** Every choice of the eight texts, the last one told first. */
    private static void textsNotEmpty() {
        for (int choice = 0; choice < 256; choice++) {
            Run run = new Run();
            for (int text = 7; text >= 0; text--) {
                if ((choice >> text) % 2 == 1) {
                    run.due(1, "add", text, 100 + text, NONE, NONE, NONE);
                }
            }
            int places = 2 * Integer.bitCount(choice);
            run.due(places, "build");
            int p = 0;
            for (int text = 0; text < 8; text++) {
                if ((choice >> text) % 2 == 1) {
                    run.due(100 + text, "sign", p).due(text, "text", p, 0).due(0, "text", p, 1);
                    run.due(-2 - text, "sign", p + 1).due(text, "text", p + 1, 0).due(1, "text", p + 1, 1);
                    p += 2;
                }
            }
            run.due(NONE, "sign", places);
        }
    }

    private static void textsEmptied() {
        Run.twoTexts().due(0, "cut", 1, 5).due(3, "build").dueAndNoMore("sign", new int[] {6, 5, -6});
        Run.twoTexts().due(0, "cut", 4, 2).due(6, "build").dueAndNoMore("sign", new int[] {5, 6, 5, 6, 5, -3});
        Run.twoTexts().due(0, "cut", 4, 2).due(0, "cut", 1, 5).due(0, "build").dueAndNoMore("sign", new int[0])
            .due(1, "add", 4, NONE, NONE, NONE, 6).due(2, "build").dueAndNoMore("sign", new int[] {6, -6});
        new Run().due(0, "add", 0, NONE, NONE, NONE, NONE).due(0, "build");
    }

    private static void placesFromZero() {
        Run.twoTexts().dueAndNoMore("sign", new int[] {5, 6, 5, 6, 5, -3, 6, 5, -6});
        Run.eightFull().due(408, "build").due(0, "sign", 0).due(-9, "sign", 407).refused("sign", 408)
            .refused("sign", -1);
    }

    private static void latestBuild() {
        EnumSet<Run.Part> built = EnumSet.of(Run.Part.WHOLE, Run.Part.PATTERN, Run.Part.DRAFT);
        Run.busy().dueAndKeeps(built, 2, "add", 0, 1, NONE, NONE, NONE).dueAndKeeps(built, 6, "add", 4, 6, 6, 6, 6)
            .dueAndKeeps(built, 1, "add", 7, 6, NONE, NONE, NONE).dueAndKeeps(built, 3, "cut", 1, 1)
            .dueAndKeeps(built, 0, "cut", 1, 3).dueAndKeeps(built, 0, "cut", 4, 6).dueAndKeeps(built, 0, "cut", 0, 2)
            .dueAndKeeps(built, 0, "cut", 7, 1).due(3, "find", 0).due(0, "build").due(0, "find", 0);
    }

    private static void beforeAnyBuild() {
        Run run = new Run().text(0, 5, 5, 5, 5);
        for (String name : new String[] {"sign", "at", "rank", "beside", "where", "before", "back"}) {
            run.dueAndNoMore(name, new int[0]);
        }
        run.dueAndNoMore("text", new int[0], 0).dueAndNoMore("text", new int[0], 1);
        run.dueAndNoMore("copy", new int[0], 0).dueAndNoMore("copy", new int[0], 1).dueAndNoMore("copy", new int[0], 2);
        run.dueAndNoMore("steps", new int[0], 1).dueAndNoMore("tell", new int[0], 0);
        run.refused("common", 0, 0).refused("swap", 0, 0);
        run.dueFromZero("find", new int[] {0, 0, 0, NONE, NONE, 0}).due(0, "different").due(0, "repeats", 1, 1);
        run.due(0, "longest", 2, 0).due(NONE, "longest", 2, 1).due(NONE, "longest", 2, 2);
        run.due(0, "shared", 1, 0).due(NONE, "shared", 1, 1).due(NONE, "shared", 1, 2).due(NONE, "shared", 1, 3);
        run.due(0, "judge");
        run.due(1, "pattern", 5, NONE, NONE, NONE).dueFromZero("find", new int[] {0, 0, 0, NONE, NONE, 0});
        run.due(5, "build").due(4, "find", 0);
    }

    /** SIGN 0 stands before and behind the last END; SIGNS that are as great as the numbers of TEXTS are no ENDS. */
    private static void endBelowSigns() {
        new Run().text(0, 0, 0).text(7, 0).due(5, "build").dueAndNoMore("at", new int[] {2, 4, 1, 3, 0})
            .dueAndNoMore("beside", new int[] {0, 0, 0, 1, 1});
        for (int text = 0; text < 8; text++) {
            Run run = new Run().text(text, 0, 1, 2, 3, 4, 5, 6, 7).due(9, "build").due(8, "at", 0).due(0, "at", 1)
                .due(7, "at", 8);
            run.due(1, "pattern", text, NONE, NONE, NONE).due(1, "find", 0).due(text, "find", 3);
        }
    }

    private static void firstEndLess() {
        Run run = new Run();
        for (int text = 7; text >= 0; text--) {
            run.text(text, 5);
        }
        run.due(16, "build").dueAndNoMore("at", new int[] {1, 3, 5, 7, 9, 11, 13, 15, 0, 2, 4, 6, 8, 10, 12, 14})
            .dueAndNoMore("rank", new int[] {8, 0, 9, 1, 10, 2, 11, 3, 12, 4, 13, 5, 14, 6, 15, 7});
    }

    private static void endsNotAlike() {
        new Run().text(0, 5, 6).text(1, 5, 6).text(2, 5, 6).due(9, "build").due(0, "common", 2, 5)
            .due(0, "common", 8, 2).due(2, "common", 0, 3).due(2, "common", 3, 6).due(1, "common", 1, 7)
            .dueFromZero("beside", new int[] {0, 0, 0, 0, 2, 2, 0, 1, 1});
    }

    /** What stands behind the next END plays no part: 5 END0 is less than 5 END2, whether 1 or 9 comes behind. */
    private static void suffixToEnd() {
        new Run().text(0, 5).text(1, 9).text(2, 5).text(3, 1).due(8, "build")
            .dueFromZero("at", new int[] {1, 3, 5, 7, 6, 0, 4, 2});
        new Run().text(0, 5).text(1, 1).text(2, 5).text(3, 9).due(8, "build")
            .dueFromZero("at", new int[] {1, 3, 5, 7, 2, 0, 4, 6});
    }

    /** The first difference decides, not a later one, nor the length: the END of the shorter one is the lesser. */
    private static void firstDiffer() {
        new Run().text(0, 1, 999).text(1, 2, 0).due(6, "build").dueFromZero("at", new int[] {2, 5, 4, 0, 3, 1});
        new Run().text(3, 8, 8).text(5, 8).due(5, "build").dueFromZero("at", new int[] {2, 4, 1, 3, 0});
        new Run().text(3, 8).text(5, 8, 8).due(5, "build").dueFromZero("at", new int[] {1, 4, 0, 3, 2});
    }

    /** Both texts are 1 2 1 2 .., then comes 0 in the first and 3 in the second. */
    private static void differLate() {
        int[] less = new int[199];
        int[] greater = new int[199];
        for (int k = 0; k < 198; k++) {
            less[k] = 1 + k % 2;
            greater[k] = 1 + k % 2;
        }
        greater[198] = 3;
        int[] row = new int[400];
        row[0] = 199;
        row[1] = 399;
        row[2] = 198;
        for (int k = 0; k < 99; k++) {
            row[3 + k] = 196 - 2 * k;
            row[102 + k] = 200 + 2 * k;
            row[201 + k] = 197 - 2 * k;
            row[300 + k] = 201 + 2 * k;
        }
        row[399] = 398;
        new Run().text(0, less).text(1, greater).due(400, "build").dueFromZero("at", row).due(198, "common", 0, 200);
    }

    private static void rowHasAll() {
        new Run().due(0, "build").dueAndNoMore("at", new int[0]);
        new Run().text(6, 3).due(2, "build").dueAndNoMore("at", new int[] {1, 0});
        for (int from = 0; from < 408; from += 102) {
            Run full = Run.eightFull().due(408, "build");
            for (int i = from; i < from + 102; i++) {
                int place = i < 8 ? 51 * i + 50 : i - 8 + (i - 8) / 50;
                full.due(place, "at", i).due(i, "rank", place);
            }
        }
    }

    private static void commonWithItself() {
        Run.twoTexts().due(5, "common", 0, 0).due(1, "common", 4, 4).due(0, "common", 5, 5).due(2, "common", 6, 6)
            .due(0, "common", 8, 8);
        Run.alike(400).due(401, "build").due(400, "common", 0, 0).due(1, "common", 399, 399)
            .due(0, "common", 400, 400);
    }

    private static void stretchOfOne() {
        new Run().text(5, 7).due(2, "build").due(1, "different").due(1, "repeats", 1, 1).due(0, "repeats", 2, 1)
            .refused("repeats", 0, 1).due(1, "shared", 1, 0);
        new Run().due(0, "build").due(0, "different").due(0, "repeats", 1, 1);
    }

    /** 1 2 3 would stand twice, if it could have an END in it. */
    private static void stretchWithoutEnd() {
        new Run().text(0, 1, 2).text(1, 3).text(2, 1, 2).text(3, 3).due(10, "build").due(4, "different")
            .due(1, "repeats", 2, 1).due(1, "repeats", 2, 2).due(0, "repeats", 3, 1).dueFromZero("find", new int[] {10})
            .due(2, "longest", 2, 0).due(0, "longest", 2, 1).due(2, "longest", 2, 2).due(2, "shared", 2, 0)
            .due(2, "pattern", 2, 3, NONE, NONE).dueFromZero("find", new int[] {0, 8, 0, NONE, NONE, 1});
    }

    private static void stretchStands() {
        new Run().text(2, 1, 1, 1, 1).due(5, "build").due(3, "longest", 2, 0).due(0, "longest", 2, 1)
            .due(2, "longest", 2, 2).due(1, "repeats", 2, 3).due(0, "repeats", 2, 4)
            .due(2, "pattern", 1, 1, NONE, NONE).dueAndNoMore("where", new int[] {0, 1, 2});
    }

    /** 7 8 9 stands at the end, at the beginning 7 8 alone: what comes behind a PLACE is no copy for it. */
    private static void copyBefore() {
        Run run = new Run().text(0, 7, 8, 1, 7).text(1, 7, 8, 9).due(9, "build");
        run.dueAndNoMore("copy", new int[] {NONE, NONE, NONE, 0, NONE, 0, 1, NONE, NONE}, 0);
        run.dueAndNoMore("copy", new int[] {0, 0, 0, 1, 0, 2, 1, 0, 0}, 1);
        Run.alike(400).due(401, "build").due(0, "copy", 1, 0).due(399, "copy", 1, 1).due(0, "copy", 399, 0)
            .due(1, "copy", 399, 1).due(NONE, "copy", 0, 0).due(0, "copy", 0, 1);
        new Run().more(0, 200, 5).more(7, 200, 5).due(402, "build").due(0, "copy", 201, 0).due(200, "copy", 201, 1);
    }

    private static void copyGreatest() {
        new Run().text(0, 1, 2, 1, 2, 3).text(1, 1, 2, 3, 4).text(2, 1, 2, 3, 4).due(16, "build")
            .due(0, "copy", 2, 0).due(2, "copy", 2, 1).due(2, "copy", 6, 0).due(3, "copy", 6, 1)
            .due(6, "copy", 11, 0).due(4, "copy", 11, 1);
    }

    private static void copyLeast() {
        new Run().text(0, 4, 1, 4, 2, 4, 3).text(1, 4, 5).due(10, "build").due(0, "copy", 2, 0).due(0, "copy", 4, 0)
            .due(0, "copy", 7, 0).due(1, "copy", 7, 1);
        new Run().text(0, 4, 9).text(1, 4, 1).text(2, 4, 5).due(9, "build").due(0, "copy", 3, 0).due(0, "copy", 6, 0);
        new Run().text(0, 4, 1).text(1, 4, 9).text(2, 4, 5).due(9, "build").due(0, "copy", 3, 0).due(0, "copy", 6, 0);
    }

    private static void copyNone() {
        Run run = new Run().text(0, 3, 2).text(1, 1, 3).due(6, "build");
        run.dueFromZero("copy", new int[] {NONE, NONE, NONE, NONE, 0, NONE}, 0);
        run.dueFromZero("copy", new int[] {0, 0, 0, 0, 1, 0}, 1);
        for (int p : new int[] {0, 50, 51, 101, 406, 407}) {
            Run.eightFull().due(408, "build").due(NONE, "copy", p, 0).due(0, "copy", p, 1);
        }
    }

    private static void patternForty() {
        Run.alike(100).due(101, "build").sought(40, 5).due(61, "find", 0).due(40, "find", 5)
            .refused("pattern", 5, NONE, NONE, NONE).due(40, "pattern", NONE, NONE, NONE, NONE).due(40, "wipe");
        for (int room = 0; room < 4; room++) {
            for (int more = 1; more <= 4; more++) {
                int[] v = {more > 3 ? 5 : NONE, more > 2 ? 5 : NONE, more > 1 ? 5 : NONE, 5};
                Run run = Run.alike(100).due(101, "build").sought(40 - room, 5);
                if (more > room) {
                    run.refused("pattern", v);
                } else {
                    run.due(40 - room + more, "pattern", v);
                }
            }
        }
    }

    private static void patternOfOthers() {
        Run.twoTexts().due(1, "pattern", 0, NONE, NONE, NONE).dueFromZero("find", new int[] {0, 2, 0, NONE, NONE, 0})
            .due(1, "wipe").due(1, "pattern", 999, NONE, NONE, NONE)
            .dueFromZero("find", new int[] {0, 9, 0, NONE, NONE, 0}).dueAndNoMore("where", new int[0])
            .due(1, "wipe").due(2, "pattern", 5, 7, NONE, NONE)
            .dueFromZero("find", new int[] {0, 6, 0, NONE, NONE, 1});
        new Run().due(1, "pattern", 4, NONE, NONE, NONE).dueFromZero("find", new int[] {0, 0, 0, NONE, NONE, 0});
    }

    /** A whole suffix is a beginning of itself, but for its END; one more SIGN is too many, also if it comes behind. */
    private static void patternStands() {
        Run.twoTexts().due(2, "pattern", 6, 5, NONE, NONE).dueAndNoMore("where", new int[] {1, 3, 6})
            .due(3, "pattern", 6, NONE, NONE, NONE).dueAndNoMore("where", new int[] {1});
        Run.twoTexts().due(4, "pattern", 5, 6, 5, 6).due(5, "pattern", 5, NONE, NONE, NONE)
            .dueAndNoMore("where", new int[] {0}).due(6, "pattern", 6, NONE, NONE, NONE)
            .dueAndNoMore("where", new int[0]).due(5, "find", 5);
    }

    private static void patternEmpty() {
        Run.twoTexts().dueFromZero("find", new int[] {9, 0, 2, 0, 8, 0})
            .dueAndNoMore("where", new int[] {0, 1, 2, 3, 4, 5, 6, 7, 8});
        new Run().due(0, "build").dueFromZero("find", new int[] {0, 0, 0, NONE, NONE, 0})
            .dueAndNoMore("where", new int[0]);
        Run.eightFull().due(408, "build").dueFromZero("find", new int[] {408, 0, 8, 0, 407, 0}).due(407, "where", 407)
            .refused("where", 408);
    }

    private static void backwardFromZero() {
        Run.twoTexts().due(5, "rank", 0).due(-6, "before", 5).due(1, "back", 5);
        new Run().text(0, 3).due(2, "build").dueAndNoMore("before", new int[] {3, -2})
            .dueAndNoMore("back", new int[] {1, 0});
        Run.eightFull().due(408, "build").due(8, "rank", 0).due(-9, "before", 8).due(7, "back", 8);
        Run.alike(400).due(401, "build").due(400, "rank", 0).due(-2, "before", 400).due(0, "back", 400)
            .due(5, "before", 0).due(1, "back", 0);
    }

    private static void distances() {
        Run run = Run.eightFull().due(408, "build");
        for (int e = 1; e <= 64; e++) {
            run.due(406 % e, "steps", 407, e);
        }
        for (int e : new int[] {0, -1, 65, Run.LEAST, Run.GREATEST}) {
            Run.busy().refused("steps", 0, e).refused("steps", 8, e);
        }
    }

    /** In a text that is all alike the PLACE at i is 400 - i; 0 is a multiple of all. */
    private static void keptPlaces() {
        Run run = Run.alike(400).due(401, "build").due(0, "steps", 400, 64).due(0, "steps", 400, 1);
        int[][] stepsTo = {{1, 1}, {63, 63}, {64, 0}, {65, 1}, {127, 63}, {128, 0}, {383, 63}, {384, 0}, {400, 16}};
        for (int[] one : stepsTo) {
            run.due(one[1], "steps", 400 - one[0], 64).due(0, "steps", 400 - one[0], 1);
        }
        run.due(0, "steps", 400 - 63, 63).due(62, "steps", 400 - 62, 63).due(1, "steps", 400 - 399, 2);
    }

    private static void draftSize() {
        new Run().due(0, "build").refused("tell", 0, 0).refused("swap", 0, 0).due(0, "judge");
        Run.twoTexts().due(1, "tell", 8, 1).refused("tell", 9, 1).refused("tell", -1, 1).due(1, "swap", 8, 0)
            .refused("swap", 9, 0).refused("swap", 0, 9).refused("swap", -1, 0).refused("swap", 0, -1);
        Run.eightFull().due(408, "build").due(406, "tell", 407, 406).due(1, "swap", 407, 407).refused("tell", 408, 0)
            .refused("swap", 408, 0).refused("swap", 0, 408).due(408, "judge");
    }

    private static void draftAtFirst() {
        Run same = Run.twoTexts().due(9, "judge").due(1, "swap", 0, 8).due(4, "tell", 2, 99).due(1, "judge")
            .due(9, "build").due(9, "judge");
        Run smaller = Run.twoTexts().due(5, "tell", 0, 1).due(0, "cut", 1, 5).due(3, "build").due(3, "judge");
        Run greater = Run.twoTexts().due(5, "tell", 0, 1).text(0, 6).due(11, "build").due(11, "judge");
        for (int i = 0; i < 9; i++) {
            same.due(ROW_OF_TWO_TEXTS[i], "tell", i, 0);
        }
        int[] smallerRow = {2, 1, 0};
        for (int i = 0; i < 3; i++) {
            smaller.due(smallerRow[i], "tell", i, 0);
        }
        int[] greaterRow = {1, 7, 10, 6, 9, 4, 2, 0, 5, 8, 3};
        for (int i = 0; i < 11; i++) {
            greater.due(greaterRow[i], "tell", i, 0);
        }
    }

    private static void draftRight() {
        Run.twoTexts().due(9, "judge").due(1, "swap", 4, 4).due(9, "judge").due(1, "swap", 0, 8).due(1, "judge")
            .due(1, "swap", 8, 0).due(9, "judge").due(7, "tell", 3, 8).due(3, "judge").due(8, "tell", 3, 7)
            .due(9, "judge");
    }

    /** Of several faults the first one is told: they come from the last one on. */
    private static void draftLeastWrong() {
        Run run = Run.twoTexts();
        for (int i = 8; i >= 0; i--) {
            run.due(i + 1, "judge");
            run.due(ROW_OF_TWO_TEXTS[i], "tell", i, 9);
        }
        run.due(0, "judge");
    }

    private static void draftNotPlaces() {
        for (int number : new int[] {-1, 9, 408, Run.LEAST, Run.GREATEST}) {
            for (int i : new int[] {0, 4, 8}) {
                Run.twoTexts().due(ROW_OF_TWO_TEXTS[i], "tell", i, number).due(i, "judge");
            }
        }
    }

    private static void draftNotOnce() {
        Run.twoTexts().due(8, "tell", 1, 5).due(1, "judge");
        Run.twoTexts().due(1, "tell", 8, 6).due(8, "judge");
        Run.twoTexts().due(1, "tell", 8, 5).due(8, "judge");
    }

    /** Where a PLACE is too great, the first i numbers with it still rise: the next number is the wrong one. */
    private static void draftNotRising() {
        for (int i = 0; i < 8; i++) {
            Run.twoTexts().due(1, "swap", i, i + 1).due(i + 1, "judge");
            Run.twoTexts().due(ROW_OF_TWO_TEXTS[i], "tell", i, 1).due(i + 1, "judge");
        }
        for (int i = 1; i < 9; i++) {
            Run.twoTexts().due(ROW_OF_TWO_TEXTS[i], "tell", i, ROW_OF_TWO_TEXTS[i - 1]).due(i, "judge");
        }
        Run.twoTexts().due(2, "tell", 4, 0).due(5, "judge");
    }

    private static void asking() {
        EnumSet<Run.Part> all = EnumSet.allOf(Run.Part.class);
        Run.busy().dueAndKeeps(all, 5, "sign", 0).dueAndKeeps(all, 4, "text", 6, 0).dueAndKeeps(all, 1, "text", 7, 1)
            .dueAndKeeps(all, 5, "at", 0).dueAndKeeps(all, 8, "rank", 1).dueAndKeeps(all, 3, "beside", 5)
            .dueAndKeeps(all, 3, "common", 0, 2).dueAndKeeps(all, 5, "common", 0, 0).dueAndKeeps(all, 0, "copy", 2, 0)
            .dueAndKeeps(all, 3, "copy", 2, 1).dueAndKeeps(all, 3, "copy", 0, 2).dueAndKeeps(all, 3, "find", 0)
            .dueAndKeeps(all, 6, "find", 1).dueAndKeeps(all, 2, "find", 2).dueAndKeeps(all, 1, "find", 3)
            .dueAndKeeps(all, 6, "find", 4).dueAndKeeps(all, 2, "find", 5).dueAndKeeps(all, 3, "where", 1)
            .dueAndKeeps(all, 9, "different").dueAndKeeps(all, 2, "repeats", 2, 2).dueAndKeeps(all, 3, "longest", 2, 0)
            .dueAndKeeps(all, 0, "longest", 2, 1).dueAndKeeps(all, 2, "longest", 2, 2)
            .dueAndKeeps(all, 2, "shared", 2, 0).dueAndKeeps(all, 2, "shared", 2, 3)
            .dueAndKeeps(all, -6, "before", 5).dueAndKeeps(all, 1, "back", 5).dueAndKeeps(all, 2, "steps", 0, 3)
            .dueAndKeeps(all, 4, "judge");
    }
}
