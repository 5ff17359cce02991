/** Counts and prints the answers that are not the ones that are due. */
final class Due {
    private String sentence = "";
    private int asked = 0;
    private int wrong = 0;

    /** What the next answers are about: told with each that is wrong. */
    void about(String of) {
        sentence = "[" + of + "] ";
    }

    void same(String call, long got, long want) {
        asked++;
        if (got != want) {
            tell(call + " answered " + got + ", due is " + want);
        }
    }

    void same(String call, String got, String want) {
        asked++;
        if (!got.equals(want)) {
            tell(call + ": " + got + ", due is " + want);
        }
    }

    void yes(String call, boolean got) {
        same(call, got ? 1 : 0, 1);
    }

    void no(String call, boolean got) {
        same(call, got ? 1 : 0, 0);
    }

    /** The cells of a net are these and no others. */
    void cells(String told, BoardDesk desk, int net, int... wanted) {
        boolean[] in = new boolean[240];
        for (int cell : wanted) {
            in[cell] = true;
        }
        for (int cell = 0; cell < in.length; cell++) {
            boolean is = desk.copper(cell) == net;
            same(told + ": is cell " + cell + " of net " + net, is ? 1 : 0, in[cell] ? 1 : 0);
        }
    }

    private void tell(String fault) {
        wrong++;
        System.out.println(sentence + fault);
    }

    int askedAnswers() {
        return asked;
    }

    int wrongAnswers() {
        return wrong;
    }

    /** Ends the program with exit code 1 when an answer was wrong. */
    void finish() {
        System.out.println(asked + " answers, " + wrong + " not as due");
        if (wrong != 0) {
            System.exit(1);
        }
    }
}
