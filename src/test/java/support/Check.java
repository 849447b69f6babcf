package support;

/** Counts and prints the answers that are not as due, each under the name of its case. */
public final class Check {
    private int wrong = 0;
    private int checks = 0;
    private String inCase = "";

    /** What follows belongs to this case. */
    public void enter(String name) {
        inCase = name + ": ";
    }

    public void due(String what, long got, long want) {
        checks++;
        if (got != want) {
            tellWrong(what + " answered " + got + ", due is " + want);
        }
    }

    public void dueFloat(String what, float got, float want) {
        checks++;
        if (Float.compare(got, want) != 0) {
            tellWrong(what + " answered " + got + ", due is " + want);
        }
    }

    public void dueText(String what, String got, String want) {
        checks++;
        if (!got.equals(want)) {
            tellWrong(what + " is\n  " + got + "\ndue is\n  " + want);
        }
    }

    public void tellWrong(String text) {
        wrong++;
        System.out.println(inCase + text);
    }

    public int wrong() {
        return wrong;
    }

    public int checks() {
        return checks;
    }

    /** Ends the test's run, with the exit code 1 if an answer was wrong. */
    public void end() {
        System.out.println(wrong == 0 ? checks + " answers are as due" : wrong + " answers are not as due");
        if (wrong != 0) {
            System.exit(1);
        }
    }
}
