/** Counts and prints the answers that are not as due. */
final class Check {
    private int answers = 0;
    private int wrong = 0;

    void due(String call, long got, long want) {
        answers++;
        if (got != want) {
            wrong++;
            System.out.println(call + " answered " + got + ", due is " + want);
        }
    }

    void due(String call, boolean got, boolean want) {
        due(call, got ? 1 : 0, want ? 1 : 0);
    }

    /** The test of one sentence of the document: told by its words if it fails, and it must look at an answer. */
    void sentence(String words, Runnable test) {
        int answersBefore = answers;
        int wrongBefore = wrong;
        try {
            test.run();
        } catch (RuntimeException thrown) {
            wrong++;
            System.out.println("a call threw " + thrown);
        }
        if (answers == answersBefore) {
            wrong++;
            System.out.println("no answer was looked at");
        }
        if (wrong != wrongBefore) {
            System.out.println("BROKEN: " + words);
        }
    }

    void end() {
        System.out.println(answers + " answers, " + wrong + " not as due");
        if (wrong != 0 || answers == 0) {
            System.exit(1);
        }
    }
}
