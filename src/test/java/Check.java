/** Counts what is not as due, and ends the run with it. */
final class Check {
    private int wrong = 0;
    private int checks = 0;

    void due(String call, long got, long want) {
        checks++;
        if (got != want) {
            wrong++;
            System.out.println(call + " answered " + got + ", due is " + want);
        }
    }

    void holds(String what, boolean is) {
        checks++;
        if (!is) {
            wrong++;
            System.out.println("does not hold: " + what);
        }
    }

    void end(String name) {
        System.out.println(name + ": " + checks + " checks, " + wrong + " wrong");
        if (wrong != 0) {
            System.exit(1);
        }
    }
}
