package support;

/** Counts and prints the answers that are not as due. */
public final class Check {
    private int wrong = 0;
    private int checks = 0;

    public void due(String what, long got, long want) {
        checks++;
        if (got != want) {
            wrong++;
            System.out.println(what + " answered " + got + ", due is " + want);
        }
    }

    public void dueFloat(String what, float got, float want) {
        checks++;
        if (Float.compare(got, want) != 0) {
            wrong++;
            System.out.println(what + " answered " + got + ", due is " + want);
        }
    }

    public void dueText(String what, String got, String want) {
        checks++;
        if (!got.equals(want)) {
            wrong++;
            System.out.println(what + " is\n  " + got + "\ndue is\n  " + want);
        }
    }

    public int wrong() {
        return wrong;
    }

    /** Ends the test's run, with the exit code 1 if an answer was wrong. */
    public void end() {
        System.out.println(wrong == 0 ? checks + " answers are as due" : wrong + " answers are not as due");
        if (wrong != 0) {
            System.exit(1);
        }
    }
}
