/** Counts the calls whose answers are not the ones that are due. */
final class Checks {
    private int wrong = 0;
    private int asked = 0;
    private String about = "";

    void about(String what) {
        about = what;
    }

    void due(String call, long got, long want) {
        asked++;
        if (got != want) {
            wrong++;
            System.out.println(about + ": " + call + " answered " + got + ", due is " + want);
        }
    }

    void that(String claim, boolean holds) {
        asked++;
        if (!holds) {
            wrong++;
            System.out.println(about + ": " + claim);
        }
    }

    int asked() {
        return asked;
    }

    int wrong() {
        return wrong;
    }

    /** Ends the test's program, with exit code 1 if anything was wrong. */
    void end() {
        System.out.println(wrong == 0 ? asked + " answers are as due" : wrong + " of " + asked + " answers are not as due");
        if (wrong != 0) {
            System.exit(1);
        }
    }
}
