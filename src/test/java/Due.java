/** Counts the answers that are not the ones due. */
final class Due {
    private int wrong;
    private int calls;
    private String about = "";

    /** What the checks from now on are about: told with each that fails. */
    void about(String what) {
        about = what;
    }

    int calls() {
        return calls;
    }

    void be(String call, long got, long want) {
        calls++;
        if (got != want) {
            wrong++;
            System.out.println(about + call + " answered " + got + ", due is " + want);
        }
    }

    void yes(String what, boolean is) {
        be(what, is ? 1 : 0, 1);
    }

    /** Ends the run, with exit code 1 if an answer was wrong. */
    void end() {
        System.out.println(wrong == 0 ? "all " + calls + " answers are as due" : wrong + " answers are not as due");
        if (wrong != 0 || calls == 0) {
            System.exit(1);
        }
    }
}
