/** Compares answers with those that are due, each under the sentence that it is due by. */
final class Answers {
    private static int compared = 0;
    private static int wrong = 0;
    private static String sentence = "";

    private Answers() {
    }

    /** Runs the test of one sentence of the document, whose words go before each fault it finds. */
    static void sentence(String words, Runnable test) {
        int before = compared;
        sentence = "[" + words + "] ";
        try {
            test.run();
        } catch (RuntimeException thrown) {
            wrong++;
            System.out.println(sentence + "a call has thrown " + thrown);
        }
        if (compared == before) {
            wrong++;
            System.out.println(sentence + "compared nothing");
        }
        sentence = "";
    }

    static void due(String call, Object got, Object want) {
        compared++;
        if (!got.equals(want)) {
            wrong++;
            System.out.println(sentence + call + " answered " + got + ", due is " + want);
        }
    }

    static void end() {
        System.out.println(compared + " answers compared, " + wrong + " wrong");
        if (wrong != 0 || compared == 0) {
            System.exit(1);
        }
    }
}
