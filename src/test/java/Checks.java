/** Counts and prints the calls whose answer is not the one that is due. */
final class Checks {
    private int made = 0;
    private int wrong = 0;
    private String sentence = "";

    /** Runs the test of one sentence of the document; what is wrong in it is printed with its words. */
    void sentence(String words, Runnable test) {
        int before = made;
        sentence = "\"" + words + "\": ";
        try {
            test.run();
        } catch (RuntimeException thrown) {
            holds("no call throws, but " + thrown, false);
        }
        holds("the sentence has a check", made > before);
        sentence = "";
    }

    void due(String call, long got, long want) {
        made++;
        if (got != want) {
            wrong++;
            System.out.println(sentence + call + " answered " + got + ", due is " + want);
        }
    }

    void holds(String what, boolean holds) {
        made++;
        if (!holds) {
            wrong++;
            System.out.println(sentence + "does not hold: " + what);
        }
    }

    int wrong() {
        return wrong;
    }

    void end() {
        System.out.println(wrong + " wrong of " + made + " checks");
        if (made == 0 || wrong != 0) {
            System.exit(1);
        }
    }
}
