import java.util.Random;
import support.Check;
import support.Model;

/**
 * Runs of 512 random calls, some of them wrong, on fresh objects; every answer is compared with
 * the model's. The first argument, if there is one, is how many runs.
 */
public final class RandomRunsTest {
    private static final int CALLS = 512;
    private static final int[] ODD = {-1, -2, -3, -9, 49, 50, 63, 64, 65, 1000, Integer.MAX_VALUE, Integer.MIN_VALUE};

    private final Check check = new Check();
    private final Random random;
    private final LinkRewirer x = new LinkRewirer();
    private final Model y = new Model();
    private final int run;
    private final int wrongs;
    private final int size;

    private RandomRunsTest(int run) {
        this.run = run;
        random = new Random(run);
        wrongs = new int[] {0, 3, 12}[random.nextInt(3)];
        size = 2 + random.nextInt(6);
    }

    public static void main(String[] args) {
        int runs = args.length > 0 ? Integer.parseInt(args[0]) : 240;
        int wrong = 0;
        for (int run = 0; run < runs && wrong == 0; run++) {
            wrong += new RandomRunsTest(run).go();
        }
        System.out.println(wrong == 0 ? runs + " runs are as due" : wrong + " answers are not as due");
        if (wrong != 0) {
            System.exit(1);
        }
    }

    private int go() {
        for (int i = run % 3 == 0 ? thin() : 0; i < CALLS && check.wrong() == 0; i++) {
            if (random.nextInt(3) == 0) {
                look(i);
            } else {
                act(i);
            }
        }
        return check.wrong();
    }

    /**
     * Begins on a grid without every second or third of the diagonals, where ways are long and many lookups fail,
     * and answers how many calls that took.
     */
    private int thin() {
        int columns = size - random.nextInt(2);
        int apart = 2 + random.nextInt(2);
        int calls = 2;
        check.due(call(0, "begin", columns, size), x.begin(columns, size), y.begin(columns, size));
        check.due(call(1, "set", 0, 3), x.set(0, 3), y.set(0, 3));
        for (int u = 0; u < columns * size; u++) {
            if ((u % columns + u / columns) % apart == 1) {
                check.due(call(calls, "leave", u), x.leave(u), y.leave(u));
                calls++;
            }
        }
        return calls;
    }

    /** A number from 0 to most, or now and then an odd one. */
    private int some(int most) {
        if (random.nextInt(100) < wrongs) {
            return random.nextBoolean() ? most + 1 : ODD[random.nextInt(ODD.length)];
        }
        return random.nextInt(most + 1);
    }

    private int node() {
        return some(y.told(0) - 1);
    }

    private void act(int i) {
        int a, b;
        switch (random.nextInt(100)) {
            case 0:
                a = some(size);
                b = some(size);
                check.due(call(i, "begin", a, b), x.begin(a, b), y.begin(a, b));
                break;
            case 1, 2, 3, 4, 5, 6, 7:
                actSettings(i);
                break;
            case 8, 9, 10, 11, 12:
                check.due(call(i, "undo"), x.undo(), y.undo());
                break;
            case 13, 14, 15:
                a = some(1);
                check.due(call(i, "keep", a), x.keep(a), y.keep(a));
                break;
            case 16, 17:
                a = some(1);
                check.due(call(i, "back", a), x.back(a), y.back(a));
                break;
            default:
                actNodes(i);
                break;
        }
    }

    private void actSettings(int i) {
        int what = some(3);
        int v = what == 3 ? random.nextInt() & (random.nextInt(5) == 0 ? -1 : Integer.MAX_VALUE) : some(what == 2 ? 9 : 3);
        check.due(call(i, "set", what, v), x.set(what, v), y.set(what, v));
    }

    private void actNodes(int i) {
        int u = node();
        int v = node();
        int a;
        switch (random.nextInt(16)) {
            case 0, 1, 2:
                check.due(call(i, "link", u, v), x.link(u, v), y.link(u, v));
                break;
            case 3:
                a = some(2);
                check.due(call(i, "unlink", u, a), x.unlink(u, a), y.unlink(u, a));
                break;
            case 4, 5, 6:
                a = some(2);
                check.due(call(i, "drawLink", u, a), x.drawLink(u, a), y.drawLink(u, a));
                break;
            case 7, 8, 9:
                check.due(call(i, "seek", u, v), x.seek(u, v), y.seek(u, v));
                break;
            case 10, 11:
                a = some(20);
                check.due(call(i, "seekSome", a), x.seekSome(a), y.seekSome(a));
                break;
            case 12, 13:
                check.due(call(i, "exchange", u, v), x.exchange(u, v), y.exchange(u, v));
                break;
            case 14:
                check.due(call(i, "leave", u), x.leave(u), y.leave(u));
                break;
            default:
                check.due(call(i, "enter", u), x.enter(u), y.enter(u));
                break;
        }
    }

    private void look(int i) {
        int u = node();
        int v = node();
        int a;
        switch (random.nextInt(12)) {
            case 0, 1:
                a = some(9);
                check.due(call(i, "told", a), x.told(a), y.told(a));
                break;
            case 2, 3:
                a = some(6);
                check.due(call(i, "node", u, a), x.node(u, a), y.node(u, a));
                break;
            case 4:
                a = some(3);
                check.due(call(i, "target", u, a), x.target(u, a), y.target(u, a));
                break;
            case 5:
                check.due(call(i, "distance", u, v), x.distance(u, v), y.distance(u, v));
                break;
            case 6, 7:
                a = some(8) - 2;
                check.due(call(i, "route", u, v, a), x.route(u, v, a), y.route(u, v, a));
                break;
            case 8:
                check.due(call(i, "way", u, v), x.way(u, v), y.way(u, v));
                break;
            case 9:
                check.due(call(i, "paths", u, v), x.paths(u, v), y.paths(u, v));
                break;
            case 10:
                a = some(7);
                check.due(call(i, "measure", a), x.measure(a), y.measure(a));
                break;
            default:
                check.dueFloat(call(i, "mean"), x.mean(), y.mean());
                break;
        }
    }

    private String call(int i, String name, int... arguments) {
        StringBuilder text = new StringBuilder("run " + run + ", call " + i + ": " + name + "(");
        for (int k = 0; k < arguments.length; k++) {
            text.append(k == 0 ? "" : ", ").append(arguments[k]);
        }
        return text.append(")").toString();
    }
}
