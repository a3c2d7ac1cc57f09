/** Counts and prints the answers that are not the ones that are due. */
final class Due {
    private static String sentence = "";
    private static int wrong = 0;

    private Due() {
    }

    /** Runs each test, whatever the ones before it did: one that throws must not hide the others. */
    static void tests(Runnable... tests) {
        for (Runnable test : tests) {
            try {
                test.run();
            } catch (RuntimeException thrown) {
                wrong++;
                System.out.println(sentence + "a call threw " + thrown);
            }
        }
        end();
    }

    /** The words of the document that the answers from here on are looked at for. */
    static void sentence(String words) {
        sentence = "[" + words + "] ";
    }

    static void is(String call, long got, long want) {
        if (got != want) {
            wrong++;
            System.out.println(sentence + call + " answered " + got + ", due is " + want);
        }
    }

    static void is(String call, boolean got, boolean want) {
        is(call, got ? 1L : 0L, want ? 1L : 0L);
    }

    static void end() {
        if (wrong != 0) {
            System.out.println(wrong + " answers are not as due");
            System.exit(1);
        }
    }
}
