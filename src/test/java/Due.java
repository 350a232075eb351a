/** Counts the answers that are not the ones that are due. */
final class Due {
    private final String test;
    private String part = "";
    private int asked;
    private int wrong;

    Due(String test) {
        this.test = test;
    }

    /** What comes now is told under this name. */
    void under(String name) {
        part = name.isEmpty() ? "" : " " + name;
    }

    void is(String call, long got, long want) {
        asked++;
        if (got != want) {
            wrong++;
            System.out.println(test + part + ": " + call + " answered " + got + ", due is " + want);
        }
    }

    void holds(String what, boolean is) {
        is(what, is ? 1 : 0, 1);
    }

    int wrong() {
        return wrong;
    }

    /** Ends the machine with exit code 1, if an answer was wrong. */
    void end() {
        System.out.println(test + ": " + asked + " answers, " + wrong + " not as due");
        if (wrong != 0) {
            System.exit(1);
        }
    }
}
