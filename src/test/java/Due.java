/** Counts the answers that are not the ones that are due, and prints each. */
final class Due {
    private final String test;
    private int promise;
    private String sentence = "";
    private int calls;
    private int wrong;

    Due(String test) {
        this.test = test;
    }

    /** The promise that the checks from here on are about. */
    void promise(int number) {
        promise = number;
        sentence = "";
    }

    /** The same, and the sentence of the document that they hold the class to. */
    void sentence(int number, String ofTheDocument) {
        promise = number;
        sentence = " (\"" + ofTheDocument + "\")";
    }

    void is(String call, int got, int want) {
        calls++;
        if (got != want) {
            wrong++;
            System.out.println(test + ", promise " + promise + sentence + ": " + call + " answered " + got
                + ", due is " + want);
        }
    }

    void isTrue(String what, boolean holds) {
        is(what, holds ? 1 : 0, 1);
    }

    /** Ends the machine with exit code 1 if an answer was wrong. */
    void end() {
        System.out.println(test + ": " + calls + " answers, " + wrong + " wrong");
        if (wrong != 0) {
            System.exit(1);
        }
    }
}
