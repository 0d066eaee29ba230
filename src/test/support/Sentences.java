/** Runs tests that are of one sentence (of the document, of README.md) each, and counts what is not as due. */
final class Sentences {
    private static final int LONGEST_SECONDS = 300;
    private static int sentences = 0;
    private static int answers = 0;
    private static int wrong = 0;
    private static volatile String sentence = "";

    private Sentences() {
    }

    /** A call that throws is a wrong answer to its sentence alone: the other sentences are still looked at. */
    static void of(String words, Runnable test) {
        if (sentences == 0) {
            watch();
        }
        sentences++;
        sentence = words;
        try {
            test.run();
        } catch (RuntimeException | StackOverflowError thrown) {
            fault("threw " + thrown + " in " + thrown.getStackTrace()[0]);
        }
    }

    /** A call that does not end is a fault as well, and nothing else would come to tell it. */
    private static void watch() {
        Thread watcher = new Thread(() -> {
            try {
                Thread.sleep(1000L * LONGEST_SECONDS);
            } catch (InterruptedException stopped) {
                return;
            }
            System.out.println("\"" + sentence + "\": no end within " + LONGEST_SECONDS + " seconds");
            Runtime.getRuntime().halt(1);
        });
        watcher.setDaemon(true);
        watcher.start();
    }

    static void due(String call, long got, long want) {
        answers++;
        if (got != want) {
            fault(call + " answered " + got + ", due is " + want);
        }
    }

    static void holds(String fact, boolean isSo) {
        answers++;
        if (!isSo) {
            fault("not so: " + fact);
        }
    }

    private static void fault(String told) {
        wrong++;
        if (wrong <= 40) {
            System.out.println("\"" + sentence + "\": " + told);
        }
    }

    static void close() {
        System.out.println(sentences + " sentences, " + answers + " answers looked at, " + wrong + " not as due");
        if (wrong != 0) {
            System.exit(1);
        }
    }
}
