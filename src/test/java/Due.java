/** Counts the answers that are not the ones due, and ends the test with exit code 1 if there was one. */
final class Due {
    private final String test;
    private String sentence = "";
    private int asked = 0;
    private int wrong = 0;

    Due(String test) {
        this.test = test;
    }

    /** The document's words by which the answers from here on are due. */
    void sentence(String words) {
        sentence = " '" + words + "'";
    }

    void is(String call, long got, long want) {
        asked++;
        if (got != want) {
            wrong++;
            if (wrong <= 50) {
                System.out.println(test + sentence + ": " + call + " answered " + got + ", due is " + want);
            }
        }
    }

    void holds(String what, boolean held) {
        is(what, held ? 1 : 0, 1);
    }

    /** What an ACT answers if these refusals hold, told from 1 on: the least of them; 0 if none does. */
    static int least(boolean... holding) {
        for (int n = 1; n <= holding.length; n++) {
            if (holding[n - 1]) {
                return -n;
            }
        }
        return 0;
    }

    boolean anyWrong() {
        return wrong > 0;
    }

    void end() {
        System.out.println(test + ": " + asked + " asked, " + wrong + " wrong");
        if (wrong > 0 || asked == 0) {
            System.exit(1);
        }
    }
}
