import java.lang.reflect.InvocationTargetException;
import java.lang.reflect.Method;
import java.util.Arrays;
import java.util.Comparator;
import java.util.function.IntUnaryOperator;
import java.util.function.Supplier;
import java.util.function.ToLongFunction;
import support.Check;

/**
 * A test made of cases: its methods with a '_' in their names, which stands between the promise, or
 * the part of the description, and the case that is tested. Each case runs with a new object, x.
 */
abstract class Cases {
    static final int BAD = -1, STATE = -2, NONE = -9;
    static final int LOW = Integer.MIN_VALUE, HIGH = Integer.MAX_VALUE;

    final LinkRewirer x = new LinkRewirer();
    private Check check;

    /** To be called by the test's main method. */
    static void run(Supplier<? extends Cases> maker) throws IllegalAccessException {
        Check check = new Check();
        Method[] methods = maker.get().getClass().getDeclaredMethods();
        Arrays.sort(methods, Comparator.comparing(Method::getName));
        for (Method method : methods) {
            if (method.getName().indexOf('_') > 0 && !method.isSynthetic()) {
                Cases cases = maker.get();
                cases.check = check;
                cases.runCase(method);
            }
        }
        check.enter("all cases");
        check.end();
    }

    private void runCase(Method method) throws IllegalAccessException {
        int before = check.checks();
        check.enter(method.getName());
        try {
            method.invoke(this);
        } catch (InvocationTargetException e) {
            check.tellWrong("threw " + e.getCause());
        }
        if (check.checks() == before) {
            check.tellWrong("checked nothing");
        }
    }

    final void due(String what, long got, long want) {
        check.due(what, got, want);
    }

    final void dueFloat(String what, float got, float want) {
        check.dueFloat(what, got, want);
    }

    final void dueText(String what, String got, String want) {
        check.dueText(what, got, want);
    }

    static LinkRewirer grid(int columns, int rows) {
        LinkRewirer made = new LinkRewirer();
        made.begin(columns, rows);
        return made;
    }

    /** All that can be seen of the present network, but for the number of changes. */
    static String seen(LinkRewirer y) {
        StringBuilder text = new StringBuilder();
        for (int what = 0; what < 9; what++) {
            text.append(y.told(what)).append(' ');
        }
        int nodes = y.told(0);
        for (int u = 0; u < nodes; u++) {
            text.append("| ").append(y.node(u, 0)).append(y.node(u, 1) == 1 ? "" : " absent");
            int links = y.node(u, 3);
            for (int k = 0; k < links; k++) {
                text.append(" >").append(y.target(u, k));
            }
        }
        return text.append('\n').toString();
    }

    /** All that can be seen at all: the network, the states of the history, the images. It uses them up. */
    static String everything(LinkRewirer y) {
        StringBuilder text = new StringBuilder(seen(y));
        for (int left = y.undo(); left >= 0; left = y.undo()) {
            text.append(left).append(": ").append(seen(y));
        }
        for (int i = 0; i < 2; i++) {
            text.append("image ").append(y.back(i)).append(": ").append(seen(y));
        }
        return text.toString();
    }

    /**
     * A network of 3 columns and 2 rows with long links 0 to 5 and 0 to 1, the nodes 2 and 3 at each
     * other's places, and node 4 absent; more than eight changes were made, and image 0 keeps something.
     */
    static LinkRewirer busy() {
        LinkRewirer made = grid(3, 2);
        made.set(0, 3);
        made.set(1, 2);
        made.set(2, 5);
        made.set(3, 77);
        made.link(0, 5);
        made.keep(0);
        made.link(0, 1);
        made.link(1, 4);
        made.exchange(2, 3);
        made.leave(4);
        return made;
    }

    /** Checks that a call is BAD for numbers below a range, from just below it down. */
    final void dueBadBelow(int least, String call, IntUnaryOperator answer) {
        for (int v : new int[] {least - 1, least - 2, -64, -HIGH, LOW}) {
            due(call + " of " + v, answer.applyAsInt(v), BAD);
        }
    }

    /** The same above a range. */
    final void dueBadAbove(int most, String call, IntUnaryOperator answer) {
        for (int v : new int[] {most + 1, most + 2, most + 64, 1 << 16, HIGH - 1, HIGH}) {
            due(call + " of " + v, answer.applyAsInt(v), BAD);
        }
    }

    /** Checks that a call on a busy network has this answer and changes nothing. */
    final void dueUnchanged(String what, ToLongFunction<LinkRewirer> call, long want) {
        LinkRewirer called = busy();
        due(what, call.applyAsLong(called), want);
        dueText("all after " + what, everything(called), everything(busy()));
    }

    /** Checks that a call has this answer, and is one change, which undo() takes back. */
    final void dueChange(String what, LinkRewirer y, ToLongFunction<LinkRewirer> call, long want) {
        int changes = y.told(9);
        String before = seen(y);
        due(what, call.applyAsLong(y), want);
        due("told(9) after " + what, y.told(9), Math.min(changes + 1, 8));
        due("undo() after " + what, y.undo(), Math.min(changes, 7));
        dueText("the network after undo() of " + what, seen(y), before);
    }

    final void duesTargets(LinkRewirer y, int u, int... wants) {
        for (int k = 0; k < wants.length; k++) {
            due("target(" + u + ", " + k + ")", y.target(u, k), wants[k]);
        }
        due("target(" + u + ", " + wants.length + ")", y.target(u, wants.length), NONE);
        due("node(" + u + ", 3)", y.node(u, 3), wants.length);
    }

    /** The route's nodes; it reaches t if t is the last of them. */
    final void duesRoute(LinkRewirer y, int s, int t, int... wants) {
        String call = "route(" + s + ", " + t + ", ";
        for (int k = 0; k < wants.length; k++) {
            due(call + k + ")", y.route(s, t, k), wants[k]);
        }
        due(call + wants.length + ")", y.route(s, t, wants.length), NONE);
        due(call + "-1)", y.route(s, t, -1), wants.length - 1);
        due(call + "-2)", y.route(s, t, -2), wants[wants.length - 1] == t ? 1 : 0);
    }

    final void duesTold(LinkRewirer y, int... wants) {
        for (int what = 0; what < wants.length; what++) {
            due("told(" + what + ")", y.told(what), wants[what]);
        }
    }

    final void duesNode(LinkRewirer y, int u, int... wants) {
        for (int what = 0; what < wants.length; what++) {
            due("node(" + u + ", " + what + ")", y.node(u, what), wants[what]);
        }
    }

    final void duesMeasures(LinkRewirer y, int... wants) {
        for (int what = 0; what < wants.length; what++) {
            due("measure(" + what + ")", y.measure(what), wants[what]);
        }
    }

    static long seedAfter(long seed) {
        return (1103515245L * seed + 12345L) % 2147483648L;
    }

    static long seedAfter(long seed, int draws) {
        long after = seed;
        for (int i = 0; i < draws; i++) {
            after = seedAfter(after);
        }
        return after;
    }

    /** The number below n that is drawn last, of so many draws from this seed. */
    static int drawn(long seed, int draws, int n) {
        return (int) (seedAfter(seed, draws) / 65536 % n);
    }

    /** The least seed from which the numbers below n that are drawn next are these. */
    static int seedFor(int n, int... numbers) {
        int seed = 0;
        while (!draws(seed, n, numbers)) {
            seed++;
        }
        return seed;
    }

    private static boolean draws(int seed, int n, int... numbers) {
        for (int i = 0; i < numbers.length; i++) {
            if (drawn(seed, i + 1, n) != numbers[i]) {
                return false;
            }
        }
        return true;
    }
}
