/** Counts and prints the answers that are not as due. */
final class Checks {
    /** Far above what any test needs: a test that runs longer holds a call that doesn't end. */
    private static final long LIMIT_MILLIS = 120_000;

    private int wrong = 0;

    Checks() {
        Thread watch = new Thread(Checks::stopAtLimit);
        watch.setDaemon(true);
        watch.start();
    }

    private static void stopAtLimit() {
        try {
            Thread.sleep(LIMIT_MILLIS);
        } catch (InterruptedException stopped) {
            return;
        }
        System.out.println("a call doesn't end");
        Runtime.getRuntime().halt(1);
    }

    void due(String call, long got, long want) {
        if (got != want) {
            wrong++;
            System.out.println(call + " answered " + got + ", due is " + want);
        }
    }

    /** The test of one sentence of the document; a call that throws breaks the sentence, too. */
    void sentence(String words, Runnable test) {
        int before = wrong;
        try {
            test.run();
        } catch (RuntimeException | StackOverflowError thrown) {
            wrong++;
            System.out.println("a call threw " + thrown);
        }
        if (wrong != before) {
            System.out.println("BROKEN: " + words);
        }
    }

    void end() {
        System.out.println(wrong == 0 ? "all answers are as due" : wrong + " answers are not as due");
        if (wrong != 0) {
            System.exit(1);
        }
    }
}
