/** The bounds that promises 16 to 19 name: different, repeats, longest, shared. */
public final class BoundsOfStretches {
    private static final int NONE = Run.NONE;

    public static void main(String[] args) {
        Sentences.of("16 different: How many STRETCHES there are", BoundsOfStretches::differentAll);
        Sentences.of("16 different: (alike ones once)", BoundsOfStretches::differentOnce);
        Sentences.of("17 repeats: STRETCHES of n SIGNS", BoundsOfStretches::repeatsOfLength);
        Sentences.of("17 repeats: (alike ones once)", BoundsOfStretches::repeatsOnce);
        Sentences.of("17 repeats: at m PLACES or more (m 1 .. 408)", BoundsOfStretches::repeatsOrMore);
        Sentences.of("17 repeats: NONE: n below 1", BoundsOfStretches::repeatsNoLength);
        Sentences.of("17 repeats: NONE: another m", BoundsOfStretches::repeatsNoCount);
        Sentences.of("18 longest: at m PLACES or more (m 2 .. 408)", BoundsOfStretches::longestOrMore);
        Sentences.of("18 longest: of several the least (as SUFFIXES are)", BoundsOfStretches::longestLeast);
        Sentences.of("18 longest: 0 its length (0: there is none); NONE: none", BoundsOfStretches::longestThereIsNone);
        Sentences.of("18 longest: 1 the least PLACE where it STANDS", BoundsOfStretches::longestPlace);
        Sentences.of("18 longest: 2 at how many PLACES", BoundsOfStretches::longestPlaces);
        Sentences.of("18 longest: NONE: another m, what", BoundsOfStretches::longestNone);
        Sentences.of("19 shared: the longest one in m TEXTS or more (m 1 .. 8)", BoundsOfStretches::sharedOrMore);
        Sentences.of("19 shared: likewise of several the least", BoundsOfStretches::sharedLeast);
        Sentences.of("19 shared: likewise 0, and NONE: none", BoundsOfStretches::sharedThereIsNone);
        Sentences.of("19 shared: 1 the least PLACE, 2 at how many PLACES", BoundsOfStretches::sharedPlaces);
        Sentences.of("19 shared: 3 in how many TEXTS", BoundsOfStretches::sharedTexts);
        Sentences.of("19 shared: NONE: another m, what", BoundsOfStretches::sharedNone);
        Sentences.close();
    }

    private static Run longest(Run run, int m, int length, int place, int places) {
        return run.due(length, "longest", m, 0).due(place, "longest", m, 1).due(places, "longest", m, 2);
    }

    private static Run shared(Run run, int m, int length, int place, int places, int texts) {
        return run.due(length, "shared", m, 0).due(place, "shared", m, 1).due(places, "shared", m, 2)
            .due(texts, "shared", m, 3);
    }

    /** So many texts, from TEXT 0 on, of 1 2 3 each. */
    private static Run likeTexts(int count) {
        Run run = new Run();
        for (int text = 0; text < count; text++) {
            run.text(text, 1, 2, 3);
        }
        return run.due(4 * count, "build");
    }

    /** Of 400 SIGNS that are all different, each STRETCH is another one. */
    private static void differentAll() {
        new Run().due(0, "different").due(0, "build").due(0, "different");
        new Run().text(7, 0).due(2, "build").due(1, "different");
        new Run().text(0, 0).text(7, 999).due(4, "build").due(2, "different");
        Run.twoTexts().due(9, "different");
        Run.eightFull().due(408, "build").due(8 * 1275, "different");
        Run run = new Run();
        int[] signs = new int[400];
        for (int k = 0; k < 400; k++) {
            signs[k] = 600 + k;
        }
        run.text(0, signs).due(401, "build").due(80200, "different");
    }

    private static void differentOnce() {
        for (int count = 1; count <= 8; count++) {
            likeTexts(count).due(6, "different");
        }
        Run.alike(400).due(401, "build").due(400, "different");
        new Run().more(0, 200, 5).more(1, 200, 5).due(402, "build").due(200, "different");
    }

    private static void repeatsOfLength() {
        Run.twoTexts().due(2, "repeats", 1, 1).due(2, "repeats", 2, 1).due(2, "repeats", 3, 1).due(2, "repeats", 4, 1)
            .due(1, "repeats", 5, 1).due(0, "repeats", 6, 1).due(0, "repeats", 9, 1).due(0, "repeats", 10, 1)
            .due(0, "repeats", Run.GREATEST, 1);
        Run.alike(400).due(401, "build").due(1, "repeats", 1, 1).due(1, "repeats", 400, 1).due(0, "repeats", 401, 1)
            .due(0, "repeats", 402, 1);
        Run.eightFull().due(408, "build").due(400, "repeats", 1, 1).due(8, "repeats", 50, 1).due(0, "repeats", 51, 1)
            .due(0, "repeats", 408, 1);
        new Run().due(0, "repeats", 1, 1).due(0, "build").due(0, "repeats", 1, 1).due(0, "repeats", Run.GREATEST, 408);
    }

    private static void repeatsOnce() {
        for (int count = 1; count <= 8; count++) {
            likeTexts(count).due(3, "repeats", 1, 1).due(2, "repeats", 2, 1).due(1, "repeats", 3, 1)
                .due(0, "repeats", 4, 1).due(1, "repeats", 3, count).due(0, "repeats", 3, count + 1);
        }
    }

    private static void repeatsOrMore() {
        Run.twoTexts().due(2, "repeats", 1, 3).due(1, "repeats", 1, 4).due(0, "repeats", 1, 5).due(2, "repeats", 2, 2)
            .due(1, "repeats", 2, 3).due(0, "repeats", 2, 4).due(1, "repeats", 3, 2).due(0, "repeats", 3, 3)
            .due(0, "repeats", 1, 408);
        Run.alike(400).due(401, "build").due(1, "repeats", 1, 400).due(0, "repeats", 1, 401).due(1, "repeats", 2, 399)
            .due(0, "repeats", 2, 400).due(1, "repeats", 400, 1).due(0, "repeats", 400, 2).due(0, "repeats", 1, 408);
        Run.eightFull().due(408, "build").due(400, "repeats", 1, 1).due(0, "repeats", 1, 2).due(0, "repeats", 1, 408);
    }

    private static void repeatsNoLength() {
        for (int n : new int[] {0, -1, Run.LEAST}) {
            Run.busy().refused("repeats", n, 1).refused("repeats", n, 408);
            new Run().refused("repeats", n, 1);
        }
    }

    private static void repeatsNoCount() {
        for (int m : new int[] {0, -1, 409, Run.LEAST, Run.GREATEST}) {
            Run.busy().refused("repeats", 1, m).refused("repeats", Run.GREATEST, m).refused("repeats", 0, m);
            new Run().refused("repeats", 1, m);
        }
    }

    private static void longestOrMore() {
        longest(Run.twoTexts(), 2, 3, 0, 2);
        longest(Run.twoTexts(), 3, 2, 1, 3);
        longest(Run.twoTexts(), 4, 1, 0, 4);
        longest(Run.twoTexts(), 5, 0, NONE, NONE);
        longest(Run.alike(400).due(401, "build"), 2, 399, 0, 2);
        longest(Run.alike(400).due(401, "build"), 399, 2, 0, 399);
        longest(Run.alike(400).due(401, "build"), 400, 1, 0, 400);
        longest(Run.alike(400).due(401, "build"), 401, 0, NONE, NONE);
        longest(Run.alike(400).due(401, "build"), 408, 0, NONE, NONE);
    }

    /** Of those that are as long, not the one that stands first or most often: 0 9 is less than 1 0. */
    private static void longestLeast() {
        longest(new Run().text(0, 9, 9, 1, 9, 9, 3, 3, 2, 3, 3).due(11, "build"), 2, 2, 5, 2);
        longest(new Run().text(0, 1, 0).text(1, 1, 0).text(2, 1, 0).text(3, 0, 9).text(4, 0, 9).due(15, "build"),
            2, 2, 9, 2);
        longest(new Run().text(0, 0, 9).text(1, 0, 9).text(2, 1, 0).text(3, 1, 0).due(12, "build"), 2, 2, 0, 2);
        longest(new Run().text(0, 7, 8).text(1, 7, 5).text(2, 7, 8).text(3, 7, 5).due(12, "build"), 2, 2, 3, 2);
    }

    private static void longestThereIsNone() {
        longest(new Run(), 2, 0, NONE, NONE);
        longest(new Run().due(0, "build"), 2, 0, NONE, NONE);
        longest(new Run().text(0, 0).due(2, "build"), 2, 0, NONE, NONE);
        longest(Run.eightFull().due(408, "build"), 2, 0, NONE, NONE);
        longest(Run.eightFull().due(408, "build"), 408, 0, NONE, NONE);
        longest(new Run().text(0, 4).text(7, 4).due(4, "build"), 2, 1, 0, 2);
        longest(new Run().text(0, 4).text(7, 4).due(4, "build"), 3, 0, NONE, NONE);
    }

    /** The one that is least as a SUFFIX may stand behind: 4 END is before 4 9, but PLACE 0 is the least. */
    private static void longestPlace() {
        longest(new Run().text(0, 4, 9).text(1, 4, 5).text(2, 4).due(8, "build"), 2, 1, 0, 3);
        longest(new Run().text(0, 3, 4, 9).text(1, 2, 4).due(7, "build"), 2, 1, 1, 2);
    }

    private static void longestPlaces() {
        for (int m = 2; m <= 8; m++) {
            longest(likeTexts(8), m, 3, 0, 8);
        }
        longest(likeTexts(8), 9, 0, NONE, NONE);
        longest(new Run().text(0, 1, 1, 1, 1).text(1, 1, 1, 1).due(9, "build"), 3, 3, 0, 3);
        longest(new Run().text(0, 1, 1, 1, 1).text(1, 1, 1, 1).due(9, "build"), 4, 2, 0, 5);
    }

    private static void longestNone() {
        for (int m : new int[] {1, 0, -1, 409, Run.LEAST, Run.GREATEST}) {
            for (int what = 0; what < 3; what++) {
                Run.busy().refused("longest", m, what);
                new Run().refused("longest", m, what);
            }
        }
        for (int what : new int[] {-1, 3, Run.LEAST, Run.GREATEST}) {
            Run.busy().refused("longest", 2, what).refused("longest", 408, what).refused("longest", 1, what);
            new Run().refused("longest", 2, what);
        }
    }

    private static void sharedOrMore() {
        shared(Run.twoTexts(), 1, 5, 0, 1, 1);
        shared(Run.twoTexts(), 2, 2, 1, 3, 2);
        shared(Run.twoTexts(), 3, 0, NONE, NONE, NONE);
        shared(Run.alike(400).due(401, "build"), 1, 400, 0, 1, 1);
        shared(Run.alike(400).due(401, "build"), 2, 0, NONE, NONE, NONE);
        Run stairs = new Run();
        for (int text = 0; text < 8; text++) {
            stairs.more(text, 8 - text, 6);
        }
        stairs.due(44, "build");
        int places = 0;
        for (int m = 1; m <= 8; m++) {
            places += m;
            shared(stairs, m, 9 - m, 0, places, m);
        }
    }

    private static void sharedLeast() {
        shared(new Run().text(0, 9, 9).text(1, 3, 3).due(6, "build"), 1, 2, 3, 1, 1);
        shared(new Run().text(0, 9, 1).text(1, 1, 9).text(2, 9, 1).text(3, 1, 9).due(12, "build"), 2, 2, 3, 2, 2);
        shared(new Run().text(0, 8, 7).text(7, 7, 8).due(6, "build"), 2, 1, 1, 2, 2);
        shared(new Run().text(0, 7, 8).text(7, 8, 7).due(6, "build"), 2, 1, 0, 2, 2);
    }

    /** What stands often in one TEXT alone is not shared by two. */
    private static void sharedThereIsNone() {
        shared(new Run(), 1, 0, NONE, NONE, NONE);
        shared(new Run().due(0, "build"), 1, 0, NONE, NONE, NONE);
        shared(new Run().due(0, "build"), 8, 0, NONE, NONE, NONE);
        shared(new Run().text(3, 4, 4, 4, 4).text(5, 6, 6, 6).due(9, "build"), 2, 0, NONE, NONE, NONE);
        shared(Run.eightFull().due(408, "build"), 2, 0, NONE, NONE, NONE);
        shared(likeTexts(7), 8, 0, NONE, NONE, NONE);
    }

    private static void sharedPlaces() {
        shared(new Run().text(0, 4, 4, 4, 4).text(1, 4, 7).due(8, "build"), 2, 1, 0, 5, 2);
        shared(new Run().text(0, 2, 4, 9).text(6, 4).due(6, "build"), 2, 1, 1, 2, 2);
        shared(new Run().text(0, 2, 4, 9).text(6, 4).text(7, 4, 9).due(9, "build"), 2, 2, 1, 2, 2);
    }

    private static void sharedTexts() {
        for (int count = 1; count <= 8; count++) {
            for (int m = 1; m <= count; m++) {
                shared(likeTexts(count), m, 3, 0, count, count);
            }
        }
        shared(new Run().text(0, 4, 4).text(7, 4, 4).due(6, "build"), 1, 2, 0, 2, 2);
    }

    private static void sharedNone() {
        for (int m : new int[] {0, -1, 9, Run.LEAST, Run.GREATEST}) {
            for (int what = 0; what < 4; what++) {
                Run.busy().refused("shared", m, what);
                new Run().refused("shared", m, what);
            }
        }
        for (int what : new int[] {-1, 4, Run.LEAST, Run.GREATEST}) {
            Run.busy().refused("shared", 1, what).refused("shared", 8, what).refused("shared", 0, what);
            new Run().refused("shared", 1, what);
        }
    }
}
