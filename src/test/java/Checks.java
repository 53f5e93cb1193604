/** Counts answers that are not as due, and ends a test by them. */
final class Checks {
    private int asked;
    private int wrong;
    private String begun = "";

    /** Names the test that the next answers belong to. */
    void begin(String test) {
        begun = test + ": ";
    }

    void due(String call, long got, long want) {
        asked++;
        if (got != want) {
            wrong++;
            System.out.println(begun + call + " answered " + got + ", due is " + want);
        }
    }

    void dueTrue(String what, boolean holds) {
        due(what, holds ? 1 : 0, 1);
    }

    void end() {
        System.out.println(asked + " answers, " + wrong + " of them not as due");
        if (wrong != 0 || asked == 0) {
            System.exit(1);
        }
    }
}
