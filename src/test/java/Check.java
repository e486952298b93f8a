/** Compares answers with those that are due, and tells of each that is not. */
final class Check {
    private final String title;
    private int compared = 0;
    private int wrong = 0;

    Check(String title) {
        this.title = title;
    }

    void due(String call, long got, long due) {
        compared++;
        if (got != due) {
            wrong++;
            System.out.println(title + ": " + call + " answered " + got + ", due is " + due);
        }
    }

    void holds(String what, boolean is) {
        compared++;
        if (!is) {
            wrong++;
            System.out.println(title + ": not so: " + what);
        }
    }

    boolean hasWrong() {
        return wrong != 0;
    }

    /** Ends the program with code 1 if an answer was wrong. */
    void finish() {
        System.out.println(title + ": " + compared + " compared, " + wrong + " wrong");
        if (wrong != 0) {
            System.exit(1);
        }
    }
}
