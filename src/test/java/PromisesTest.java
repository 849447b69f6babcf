import support.Check;

/** For each promise of the document: ordinary inputs, the edges that it names, wrong inputs. */
public final class PromisesTest {
    private static final int BAD = -1, STATE = -2, NONE = -9;
    private static final int LOW = Integer.MIN_VALUE, HIGH = Integer.MAX_VALUE;

    private static final Check CHECK = new Check();

    public static void main(String[] args) {
        newObject();
        begin();
        beginStartsAnew();
        link();
        linkDropsTheOldest();
        unlink();
        drawLink();
        drawLinkByWeights();
        seek();
        seekLinksTheFirst();
        seekLinksByChance();
        seekLinksTheMiddle();
        seekSome();
        exchange();
        leave();
        enter();
        set();
        undo();
        told();
        node();
        target();
        distance();
        route();
        way();
        paths();
        measure();
        mean();
        keep();
        back();
        history();
        faultsChangeNothing();
        CHECK.end();
    }

    private static void due(String what, long got, long want) {
        CHECK.due(what, got, want);
    }

    /** All that can be seen of the present network, but for the number of changes. */
    private static String seen(LinkRewirer x) {
        StringBuilder text = new StringBuilder();
        for (int what = 0; what < 9; what++) {
            text.append(x.told(what)).append(' ');
        }
        for (int u = 0; u < x.told(0); u++) {
            text.append("| ").append(x.node(u, 0)).append(x.node(u, 1) == 1 ? "" : " gone");
            for (int k = 0; x.target(u, k) >= 0; k++) {
                text.append(" >").append(x.target(u, k));
            }
        }
        return text.toString();
    }

    private static LinkRewirer grid(int columns, int rows) {
        LinkRewirer x = new LinkRewirer();
        x.begin(columns, rows);
        return x;
    }

    private static void duesTold(String name, LinkRewirer x, int... wants) {
        for (int what = 0; what < wants.length; what++) {
            due(name + ": told(" + what + ")", x.told(what), wants[what]);
        }
    }

    private static void duesTargets(String name, LinkRewirer x, int u, int... wants) {
        for (int k = 0; k < wants.length; k++) {
            due(name + ": target(" + u + ", " + k + ")", x.target(u, k), wants[k]);
        }
        due(name + ": target(" + u + ", " + wants.length + ")", x.target(u, wants.length), NONE);
        due(name + ": node(" + u + ", 3)", x.node(u, 3), wants.length);
    }

    private static void duesRoute(String name, LinkRewirer x, int s, int t, int... wants) {
        for (int k = 0; k < wants.length; k++) {
            due(name + ": route(" + s + ", " + t + ", " + k + ")", x.route(s, t, k), wants[k]);
        }
        due(name + ": route past its end", x.route(s, t, wants.length), NONE);
        due(name + ": route's steps", x.route(s, t, -1), wants.length - 1);
        due(name + ": route reaches", x.route(s, t, -2), wants[wants.length - 1] == t ? 1 : 0);
    }

    private static long seedAfter(long seed) {
        return (1103515245L * seed + 12345L) % 2147483648L;
    }

    // promise 1
    private static void newObject() {
        LinkRewirer x = new LinkRewirer();
        duesTold("new", x, 16, 4, 16, 0, 0, 2, 0, 3, 1, 0);
        for (int u = 0; u < 16; u++) {
            due("new: place of " + u, x.node(u, 0), u);
            due("new: presence of " + u, x.node(u, 1), 1);
        }
        due("new: rows", x.distance(0, 12), 3);
        due("new: undo", x.undo(), STATE);
        due("new: back(0)", x.back(0), STATE);
        due("new: back(1)", x.back(1), STATE);
    }

    // promise 2
    private static void begin() {
        int[][] wrong = {{0, 1}, {1, 0}, {8, 1}, {1, 8}, {-1, -1}, {LOW, 4}, {4, HIGH}};
        LinkRewirer x = new LinkRewirer();
        for (int[] size : wrong) {
            due("begin(" + size[0] + ", " + size[1] + ")", x.begin(size[0], size[1]), BAD);
        }
        duesTold("after wrong begins", x, 16, 4, 16, 0, 0, 2, 0, 3, 1, 0);
        int before = 16;
        for (int columns = 1; columns <= 7; columns++) {
            for (int rows = 1; rows <= 7; rows++) {
                due("begin(" + columns + ", " + rows + ")", x.begin(columns, rows), before);
                before = columns * rows;
                duesTold("begun", x, before, columns, before, 0, 0);
                due("far corner", x.distance(0, before - 1), columns + rows - 2);
            }
        }
    }

    private static void beginStartsAnew() {
        LinkRewirer x = new LinkRewirer();
        x.set(0, 3);
        x.set(1, 2);
        x.set(2, 7);
        x.set(3, 99);
        x.link(0, 5);
        x.exchange(8, 9);
        x.leave(3);
        String old = seen(x);
        due("begin(4, 4) again", x.begin(4, 4), 16);
        duesTold("anew", x, 16, 4, 16, 0, 0, 3, 2, 7, 99, 8);
        due("anew: place of 8", x.node(8, 0), 8);
        due("anew: presence of 3", x.node(3, 1), 1);
        due("begin is undone", x.undo(), 7);
        CHECK.dueText("network before begin", seen(x), old);
    }

    // promise 3
    private static void link() {
        LinkRewirer x = new LinkRewirer();
        due("link(0, 16)", x.link(0, 16), BAD);
        due("link(16, 0)", x.link(16, 0), BAD);
        due("link(-1, 0)", x.link(-1, 0), BAD);
        due("link(0, -1)", x.link(0, -1), BAD);
        due("link(5, 5)", x.link(5, 5), BAD);
        due("link(LOW, HIGH)", x.link(LOW, HIGH), BAD);
        x.leave(3);
        due("link from an absent node", x.link(3, 0), STATE);
        due("link to an absent node", x.link(0, 3), STATE);
        due("link of an absent node to itself", x.link(3, 3), BAD);
        due("link of an absent node to none", x.link(3, 16), BAD);
        due("no change as yet", x.told(9), 1);
        due("link to a neighbor", x.link(0, 1), 1);
        due("link to a far node", x.link(0, 15), 2);
        duesTargets("two links", x, 0, 1, 15);
        due("the other way", x.node(15, 3), 0);
        due("lengths", x.told(4), 7);
        due("changes", x.told(9), 3);
    }

    private static void linkDropsTheOldest() {
        LinkRewirer x = new LinkRewirer();
        x.link(0, 5);
        x.link(0, 6);
        due("a link that is there", x.link(0, 5), 2);
        duesTargets("as before", x, 0, 5, 6);
        due("that was a change", x.told(9), 3);
        due("a third link", x.link(0, 7), 2);
        duesTargets("the oldest is gone", x, 0, 6, 7);
        x.set(0, 3);
        due("three links", x.link(0, 8), 3);
        due("a fourth one", x.link(0, 9), 3);
        duesTargets("limit 3", x, 0, 7, 8, 9);
        x.set(0, 1);
        duesTargets("links stay", x, 0, 7, 8, 9);
        due("above the limit", x.link(0, 10), 3);
        duesTargets("just one is gone", x, 0, 8, 9, 10);
        due("limit 1", x.link(1, 10), 1);
        due("limit 1 again", x.link(1, 11), 1);
        duesTargets("only the newest", x, 1, 11);
    }

    // promise 4
    private static void unlink() {
        LinkRewirer x = new LinkRewirer();
        x.set(0, 3);
        x.link(2, 8);
        x.link(2, 9);
        x.link(2, 10);
        due("unlink(2, 3)", x.unlink(2, 3), BAD);
        due("unlink(2, -1)", x.unlink(2, -1), BAD);
        due("unlink(2, HIGH)", x.unlink(2, HIGH), BAD);
        due("unlink(16, 0)", x.unlink(16, 0), BAD);
        due("unlink(-1, 0)", x.unlink(-1, 0), BAD);
        due("unlink(3, 0)", x.unlink(3, 0), BAD);
        due("changes", x.told(9), 4);
        due("the one between", x.unlink(2, 1), 9);
        duesTargets("two left", x, 2, 8, 10);
        due("the oldest", x.unlink(2, 0), 8);
        due("the last", x.unlink(2, 0), 10);
        due("no more", x.unlink(2, 0), BAD);
        due("undo", x.undo(), 6);
        duesTargets("back again", x, 2, 10);
        x.leave(2);
        due("unlink of an absent node", x.unlink(2, 0), BAD);
    }

    // promise 5
    private static void drawLink() {
        LinkRewirer x = new LinkRewirer();
        int[][] wrong = {{16, 0}, {-1, 0}, {0, 3}, {0, -1}, {LOW, HIGH}};
        for (int[] pair : wrong) {
            due("drawLink(" + pair[0] + ", " + pair[1] + ")", x.drawLink(pair[0], pair[1]), BAD);
        }
        x.leave(1);
        due("drawLink of an absent node", x.drawLink(1, 0), STATE);
        due("drawLink of an absent node, wrongly", x.drawLink(1, 3), BAD);
        due("seed", x.told(8), 1);
        due("changes", x.told(9), 1);
        // the number is 16838 modulo 13, which is 3; the targets are 2, 3, 5, 6, 7, .. 15
        due("drawLink(0, 0)", x.drawLink(0, 0), 6);
        due("seed then", x.told(8), 1103527590);
        duesTargets("drawn", x, 0, 6);
        due("undo", x.undo(), 1);
        due("seed again", x.told(8), 1);

        LinkRewirer small = grid(3, 1);
        due("nobody is far from 1", small.drawLink(1, 2), NONE);
        due("nothing drawn", small.told(8), 1);
        due("a change all the same", small.told(9), 2);
        due("only one is far from 0", small.drawLink(0, 2), 2);
        due("it has a link now", small.drawLink(0, 2), NONE);
        small.begin(4, 1);
        small.set(0, 1);
        small.link(0, 2);
        due("only the other one", small.drawLink(0, 1), 3);
        duesTargets("the limit holds", small, 0, 3);
    }

    /** In a column of seven, the targets of node 0 are 2 to 6, at the distances 2 to 6. */
    private static void drawLinkByWeights() {
        int[][] weights = {{1, 1, 1, 1, 1}, {30, 20, 15, 12, 10}, {900, 400, 225, 144, 100}};
        LinkRewirer x = grid(1, 7);
        for (int seed = 0; seed < 6000; seed++) {
            int exponent = seed % 3;
            if (seed % 100 == 0) {
                x = grid(1, 7);
            }
            int sum = 0;
            for (int w : weights[exponent]) {
                sum += w;
            }
            long number = seedAfter(seed) / 65536 % sum;
            int want = 1;
            while (number >= 0) {
                number -= weights[exponent][want - 1];
                want++;
            }
            x.set(3, seed);
            due("drawLink(0, " + exponent + ") with the seed " + seed, x.drawLink(0, exponent), want);
            due("its seed then", x.told(8), seedAfter(seed));
            x.unlink(0, 0);
        }
        // 60 / 7 is 8 and 3600 / 49 is 73, rounded down
        for (int seed = 0; seed < 1500; seed++) {
            x = grid(5, 4);
            for (int u = 1; u < 18; u++) {
                x.leave(u);
            }
            x.set(3, seed);
            // 18 is at the distance 6, 19 at 7
            boolean squared = seed % 2 == 0;
            long number = seedAfter(seed) / 65536 % (squared ? 173 : 18);
            due("far, seed " + seed, x.drawLink(0, squared ? 2 : 1), number < (squared ? 100 : 10) ? 18 : 19);
        }
    }

    // promise 6
    private static void seek() {
        LinkRewirer x = new LinkRewirer();
        due("seek(0, 16)", x.seek(0, 16), BAD);
        due("seek(-1, 0)", x.seek(-1, 0), BAD);
        due("seek(LOW, 0)", x.seek(LOW, 0), BAD);
        due("no change", x.told(9), 0);
        due("seek(0, 15)", x.seek(0, 15), 6);
        due("seek(7, 7)", x.seek(7, 7), 0);
        due("rule 0 links nothing", x.told(3), 0);
        due("two changes", x.told(9), 2);
        x.leave(1);
        due("seek from an absent node", x.seek(1, 0), STATE);
        due("seek of an absent node", x.seek(0, 1), STATE);
        due("seek, absent and wrong", x.seek(1, 16), BAD);
        x.set(1, 1);
        due("seek that fails", x.seek(0, 2), NONE);
        due("nothing is rewired", x.told(3), 0);
        due("it was a change", x.told(9), 5);
    }

    private static void seekLinksTheFirst() {
        LinkRewirer x = new LinkRewirer();
        x.set(1, 1);
        due("rule 1, itself", x.seek(5, 5), 0);
        duesTargets("rule 1, itself", x, 5);
        due("rule 1", x.seek(0, 10), 4);
        duesTargets("rule 1", x, 0, 10);
        due("rule 1 again", x.seek(0, 10), 1);
        due("rule 1, a neighbor", x.seek(0, 1), 1);
        duesTargets("rule 1, a neighbor", x, 0, 10, 1);
        due("all links", x.told(3), 2);
        due("nothing drawn", x.told(8), 1);
        due("undo", x.undo(), 4);
        duesTargets("rule 1, undone", x, 0, 10);
    }

    private static void seekLinksByChance() {
        for (int chance = 1; chance <= 9; chance++) {
            LinkRewirer x = new LinkRewirer();
            x.set(1, 2);
            x.set(2, chance);
            due("rule 2, itself", x.seek(15, 15), 0);
            due("rule 2, nothing drawn", x.told(8), 1);
            due("rule 2", x.seek(0, 15), 6);
            long seed = 1;
            for (int u : new int[] {0, 1, 2, 3, 7, 11}) {
                seed = seedAfter(seed);
                boolean linked = seed / 65536 % chance == 0;
                due("rule 2, chance " + chance + ", node " + u, x.target(u, 0), linked ? 15 : NONE);
            }
            due("rule 2, chance " + chance + ", seed", x.told(8), seed);
            due("rule 2, chance " + chance + ", end", x.target(15, 0), NONE);
        }
    }

    private static void seekLinksTheMiddle() {
        LinkRewirer x = new LinkRewirer();
        x.set(1, 3);
        due("rule 3, no step", x.seek(3, 3), 0);
        due("rule 3, one step", x.seek(0, 1), 1);
        due("rule 3, too short", x.told(3), 0);
        due("rule 3, two steps", x.seek(0, 2), 2);
        duesTargets("rule 3, two steps", x, 1, 2);
        due("rule 3, three steps", x.seek(8, 11), 3);
        duesTargets("rule 3, three steps", x, 9, 11);
        due("rule 3, six steps", x.seek(12, 3), 6);
        duesTargets("rule 3, six steps", x, 0, 3);
        due("rule 3, all links", x.told(3), 3);
    }

    // promise 7
    private static void seekSome() {
        LinkRewirer x = new LinkRewirer();
        due("seekSome(0)", x.seekSome(0), BAD);
        due("seekSome(21)", x.seekSome(21), BAD);
        due("seekSome(-1)", x.seekSome(-1), BAD);
        due("seekSome(HIGH)", x.seekSome(HIGH), BAD);
        duesTold("nothing looked up", x, 16, 4, 16, 0, 0, 2, 0, 3, 1, 0);
        for (int n = 1; n <= 20; n++) {
            int before = x.told(8);
            due("all present, seekSome(" + n + ")", x.seekSome(n), n);
            long seed = before;
            for (int i = 0; i < 2 * n; i++) {
                seed = seedAfter(seed);
            }
            due("two numbers a lookup", x.told(8), seed);
            due("one change", x.told(9), Math.min(n, 8));
        }
        due("undo", x.undo(), 7);
        seekSomeWithAbsent();
        seekSomeWithRule();
    }

    /** In a row of five without its third node, what is looked up must be on the same side. */
    private static void seekSomeWithAbsent() {
        LinkRewirer x = grid(5, 1);
        x.leave(2);
        x.set(3, 4711);
        long seed = 4711;
        for (int n = 1; n <= 20; n++) {
            int reached = 0;
            for (int i = 0; i < n; i++) {
                seed = seedAfter(seed);
                long s = seed / 65536 % 5;
                seed = seedAfter(seed);
                long t = seed / 65536 % 5;
                reached += s != 2 && t != 2 && s < 2 == t < 2 ? 1 : 0;
            }
            due("some absent, seekSome(" + n + ")", x.seekSome(n), reached);
            due("some absent, seed", x.told(8), seed);
        }
    }

    private static void seekSomeWithRule() {
        LinkRewirer x = new LinkRewirer();
        LinkRewirer y = new LinkRewirer();
        x.set(1, 1);
        y.set(1, 1);
        long seed = 1;
        for (int i = 0; i < 20; i++) {
            seed = seedAfter(seed);
            int s = (int) (seed / 65536 % 16);
            seed = seedAfter(seed);
            y.seek(s, (int) (seed / 65536 % 16));
        }
        y.set(3, (int) seed);
        due("seekSome(20) by rule 1", x.seekSome(20), 20);
        CHECK.dueText("rewired as by seek()", seen(x), seen(y));
        due("undo of all lookups", x.undo(), 1);
        due("no links then", x.told(3), 0);
    }

    // promise 8
    private static void exchange() {
        LinkRewirer x = new LinkRewirer();
        due("exchange(0, 16)", x.exchange(0, 16), BAD);
        due("exchange(-1, 0)", x.exchange(-1, 0), BAD);
        due("exchange(4, 4)", x.exchange(4, 4), BAD);
        x.leave(3);
        due("exchange with an absent node", x.exchange(3, 0), STATE);
        due("exchange with an absent node", x.exchange(0, 3), STATE);
        due("exchange of an absent node with itself", x.exchange(3, 3), BAD);
        due("exchange of an absent node with none", x.exchange(3, 16), BAD);
        due("no change", x.told(9), 1);
        due("the same length is no obstacle", x.exchange(0, 15), 1);
        due("place of 0", x.node(0, 0), 15);
        due("place of 15", x.node(15, 0), 0);
        due("undo", x.undo(), 1);
        due("place of 0 again", x.node(0, 0), 0);
        duesRoute("its neighbors again", x, 2, 0, 2, 1, 0);
        duesRoute("the other's neighbors again", x, 13, 15, 13, 14, 15);

        x.link(0, 1);
        String before = seen(x);
        due("the link would be longer", x.exchange(1, 15), 0);
        CHECK.dueText("nothing exchanged", seen(x), before);
        due("a change all the same", x.told(9), 3);
        due("exchange of a link's ends", x.exchange(0, 1), 1);
        due("lengths", x.told(4), 1);
        x.link(0, 14);
        due("a far link", x.told(4), 5);
        due("a shorter sum", x.exchange(14, 8), 1);
        due("lengths then", x.told(4), 4);
        due("neighbors move too", x.route(14, 4, -1), 1);
        due("distance", x.distance(14, 8), 3);
    }

    // promise 9
    private static void leave() {
        LinkRewirer x = new LinkRewirer();
        due("leave(16)", x.leave(16), BAD);
        due("leave(-1)", x.leave(-1), BAD);
        x.set(0, 3);
        x.link(5, 1);
        x.link(5, 0);
        x.link(0, 4);
        x.link(0, 5);
        x.link(0, 6);
        x.link(1, 0);
        due("two from it, one to it", x.leave(5), 3);
        due("again", x.leave(5), STATE);
        duesTargets("the others stay", x, 0, 4, 6);
        duesTargets("no links", x, 5);
        due("links left", x.told(3), 3);
        due("present nodes", x.told(2), 15);
        due("its place", x.node(5, 0), 5);
        due("undo", x.undo(), 7);
        duesTargets("undone", x, 0, 4, 5, 6);
        duesTargets("undone", x, 5, 1, 0);

        LinkRewirer pair = grid(2, 1);
        due("leave(0)", pair.leave(0), 0);
        due("the last one", pair.leave(1), STATE);
        due("absent, and no other", pair.leave(0), STATE);
        due("no such node, and no other", pair.leave(2), BAD);
        LinkRewirer single = grid(1, 1);
        due("the only one", single.leave(0), STATE);
    }

    // promise 10
    private static void enter() {
        LinkRewirer x = new LinkRewirer();
        due("enter(16)", x.enter(16), BAD);
        due("enter(-1)", x.enter(-1), BAD);
        due("enter(0)", x.enter(0), STATE);
        x.link(5, 15);
        x.link(0, 5);
        x.leave(5);
        x.leave(6);
        due("changes", x.told(9), 4);
        due("one neighbor is absent", x.enter(5), 3);
        duesTargets("without links", x, 5);
        due("none to it", x.node(5, 4), 0);
        due("at its place", x.node(5, 0), 5);
        due("all four neighbors", x.enter(6), 4);
        x.leave(0);
        due("a corner", x.enter(0), 2);
        due("undo", x.undo(), 7);
        due("absent again", x.node(0, 1), 0);

        LinkRewirer moved = new LinkRewirer();
        moved.exchange(0, 5);
        moved.leave(0);
        due("four neighbors at the new place", moved.enter(0), 4);
        due("the place of 5 now", moved.node(0, 0), 5);
    }

    // promise 11
    private static void set() {
        LinkRewirer x = new LinkRewirer();
        int[][] wrong = {{0, 0}, {0, 4}, {1, -1}, {1, 4}, {2, 0}, {2, 10}, {3, -1}, {3, LOW}, {4, 1}, {-1, 1},
            {LOW, 1}, {HIGH, 1}};
        for (int[] pair : wrong) {
            due("set(" + pair[0] + ", " + pair[1] + ")", x.set(pair[0], pair[1]), BAD);
        }
        duesTold("nothing set", x, 16, 4, 16, 0, 0, 2, 0, 3, 1, 0);
        int[] firsts = {2, 0, 3, 1};
        int[][] values = {{1, 2, 3}, {0, 1, 2, 3}, {1, 2, 3, 4, 5, 6, 7, 8, 9}, {0, 7, HIGH}};
        for (int what = 0; what < 4; what++) {
            int before = firsts[what];
            for (int v : values[what]) {
                due("set(" + what + ", " + v + ")", x.set(what, v), before);
                due("told then", x.told(5 + what), v);
                before = v;
            }
        }
        due("undo", x.undo(), 7);
        due("the seed before", x.told(8), 7);
        x.set(3, HIGH);
        x.drawLink(0, 0);
        due("without overflow", x.told(8), seedAfter(HIGH));
        x.set(3, 0);
        x.drawLink(0, 0);
        due("from 0", x.told(8), 12345);
    }

    // promise 12
    private static void undo() {
        LinkRewirer x = new LinkRewirer();
        due("nothing to undo", x.undo(), STATE);
        x.set(0, 1);
        x.set(1, 2);
        x.set(2, 5);
        x.set(3, 60);
        x.link(0, 9);
        due("link undone", x.undo(), 4);
        due("no links", x.told(3), 0);
        due("seed undone", x.undo(), 3);
        due("seed", x.told(8), 1);
        due("chance undone", x.undo(), 2);
        due("chance", x.told(7), 3);
        due("rule undone", x.undo(), 1);
        due("rule", x.told(6), 0);
        due("limit undone", x.undo(), 0);
        due("limit", x.told(5), 2);
        due("nothing more", x.undo(), STATE);
        due("undo is no change", x.told(9), 0);
        x.begin(7, 7);
        x.undo();
        duesTold("the old grid", x, 16, 4, 16);
    }

    // promise 13
    private static void told() {
        LinkRewirer x = grid(5, 3);
        x.link(0, 14);
        x.link(0, 1);
        x.link(7, 8);
        x.leave(12);
        x.set(0, 3);
        x.set(2, 8);
        duesTold("told", x, 15, 5, 14, 3, 8, 3, 0, 8, 1, 7);
        due("told(-1)", x.told(-1), BAD);
        due("told(10)", x.told(10), BAD);
        due("told(LOW)", x.told(LOW), BAD);
        due("told(HIGH)", x.told(HIGH), BAD);
    }

    // promise 14
    private static void node() {
        LinkRewirer x = grid(3, 2);
        due("node(6, 0)", x.node(6, 0), BAD);
        due("node(-1, 0)", x.node(-1, 0), BAD);
        due("node(0, 7)", x.node(0, 7), BAD);
        due("node(0, -1)", x.node(0, -1), BAD);
        x.link(0, 1);
        x.link(0, 5);
        x.link(4, 5);
        x.exchange(2, 3);
        duesNode(x, 0, 0, 1, 3, 2, 0, 5, 2);
        duesNode(x, 2, 3, 1, 2, 0, 0, 5, 3);
        duesNode(x, 5, 5, 1, 2, 0, 2, 5, 3);
        x.leave(5);
        duesNode(x, 5, 5, 0, 0, 0, 0, 0, 0);
        duesNode(x, 0, 0, 1, 2, 1, 0, 4, 2);

        LinkRewirer row = grid(4, 1);
        row.leave(1);
        row.link(0, 3);
        duesNode(row, 0, 0, 1, 1, 1, 0, 2, 2);
        duesNode(row, 3, 3, 1, 1, 0, 1, 1, 1);
        duesNode(row, 1, 1, 0, 0, 0, 0, 0, 0);
        row.unlink(0, 0);
        duesNode(row, 0, 0, 1, 0, 0, 0, 0, 0);
    }

    private static void duesNode(LinkRewirer x, int u, int... wants) {
        for (int what = 0; what < wants.length; what++) {
            due("node(" + u + ", " + what + ")", x.node(u, what), wants[what]);
        }
    }

    // promise 15
    private static void target() {
        LinkRewirer x = new LinkRewirer();
        x.link(6, 2);
        due("target(6, 0)", x.target(6, 0), 2);
        due("target(6, 1)", x.target(6, 1), NONE);
        due("target(6, 3)", x.target(6, 3), NONE);
        due("target(6, HIGH)", x.target(6, HIGH), NONE);
        due("target(6, -1)", x.target(6, -1), BAD);
        due("target(6, LOW)", x.target(6, LOW), BAD);
        due("target(16, 0)", x.target(16, 0), BAD);
        due("target(-1, 0)", x.target(-1, 0), BAD);
        x.leave(2);
        due("target gone", x.target(6, 0), NONE);
        due("of an absent node", x.target(2, 0), NONE);
    }

    // promise 16
    private static void distance() {
        LinkRewirer x = grid(7, 7);
        due("distance(0, 48)", x.distance(0, 48), 12);
        due("distance(48, 0)", x.distance(48, 0), 12);
        due("distance(6, 42)", x.distance(6, 42), 12);
        due("distance(8, 8)", x.distance(8, 8), 0);
        due("distance(6, 7)", x.distance(6, 7), 7);
        due("distance(0, 49)", x.distance(0, 49), BAD);
        due("distance(-1, 0)", x.distance(-1, 0), BAD);
        x.exchange(0, 24);
        due("exchanged", x.distance(0, 48), 6);
        x.leave(0);
        due("absent", x.distance(0, 48), 6);
    }

    // promise 17
    private static void route() {
        LinkRewirer x = new LinkRewirer();
        duesRoute("grid", x, 0, 15, 0, 1, 2, 3, 7, 11, 15);
        duesRoute("grid", x, 15, 0, 15, 11, 7, 3, 2, 1, 0);
        duesRoute("itself", x, 4, 4, 4);
        x.link(1, 14);
        duesRoute("a long link", x, 0, 15, 0, 1, 14, 15);
        x.link(1, 11);
        duesRoute("equally near, the lower", x, 0, 15, 0, 1, 11, 15);
        x.link(0, 3);
        duesRoute("equally near to itself, not taken", x, 0, 12, 0, 4, 8, 12);
        x.leave(8);
        duesRoute("it fails there", x, 0, 12, 0, 4);
        due("nothing is rewired", x.told(9), 4);
        due("route(0, 16, 0)", x.route(0, 16, 0), BAD);
        due("route(-1, 0, 0)", x.route(-1, 0, 0), BAD);
        due("route(0, 1, -3)", x.route(0, 1, -3), BAD);
        due("route(8, 1, LOW)", x.route(8, 1, LOW), BAD);
        due("route(0, 1, HIGH)", x.route(0, 1, HIGH), NONE);
        for (int k = -2; k < 2; k++) {
            due("route(8, 1, " + k + ")", x.route(8, 1, k), STATE);
            due("route(1, 8, " + k + ")", x.route(1, 8, k), STATE);
        }
        x.set(1, 1);
        due("rule 1 asked", x.route(0, 15, -2), 1);
        due("rule 1 does nothing", x.target(0, 1), NONE);
        LinkRewirer moved = new LinkRewirer();
        moved.exchange(1, 10);
        duesRoute("by places", moved, 0, 2, 0, 10, 2);
        duesRoute("the lower number", moved, 0, 5, 0, 4, 5);
    }

    // promise 18
    private static void way() {
        LinkRewirer x = grid(7, 1);
        due("way(0, 6)", x.way(0, 6), 6);
        due("way(3, 3)", x.way(3, 3), 0);
        x.link(0, 6);
        due("by the link", x.way(0, 6), 1);
        due("back, not by the link", x.way(6, 0), 6);
        due("first away, then by the link", x.way(1, 6), 2);
        due("beyond the link", x.way(0, 4), 3);
        x.leave(3);
        due("no path", x.way(6, 0), NONE);
        due("still a path", x.way(1, 4), 4);
        due("way(3, 0)", x.way(3, 0), STATE);
        due("way(0, 3)", x.way(0, 3), STATE);
        due("way(0, 7)", x.way(0, 7), BAD);
        due("way(-1, 3)", x.way(-1, 3), BAD);
        LinkRewirer maze = grid(7, 7);
        for (int u : new int[] {1, 8, 15, 22, 29, 36, 10, 17, 24, 31, 38, 45, 5, 12, 19, 26, 33, 40}) {
            maze.leave(u);
        }
        due("there is a path still", maze.way(0, 42), 6);
        due("the longer way", maze.way(0, 6), 30);
        due("counted", maze.node(0, 5), 30);
    }

    // promise 19
    private static void paths() {
        LinkRewirer x = new LinkRewirer();
        due("paths(0, 15)", x.paths(0, 15), 20);
        due("paths(3, 3)", x.paths(3, 3), 1);
        due("paths(0, 5)", x.paths(0, 5), 2);
        x.link(0, 1);
        due("a neighbor is a contact once", x.paths(0, 5), 2);
        x.link(0, 10);
        due("paths over the link", x.paths(0, 15), 2);
        due("paths back", x.paths(15, 0), 20);
        x.leave(5);
        x.leave(2);
        due("paths past the absent", x.paths(0, 3), 2);
        due("paths(5, 0)", x.paths(5, 0), STATE);
        due("paths(0, 5)", x.paths(0, 5), STATE);
        due("paths(0, 16)", x.paths(0, 16), BAD);
        due("paths(-1, 5)", x.paths(-1, 5), BAD);
        LinkRewirer row = grid(3, 1);
        due("one, before a node leaves", row.paths(0, 2), 1);
        row.leave(1);
        due("none", row.paths(0, 2), 0);
        due("one", row.paths(2, 2), 1);
        due("a large grid", grid(7, 7).paths(0, 48), 924);
    }

    // promise 20
    private static void measure() {
        LinkRewirer x = grid(7, 1);
        duesMeasures("a row", x, 42, 42, 6, 112, 42, 6, 112, 42);
        x.link(0, 6);
        duesMeasures("a row with a link", x, 42, 42, 6, 98, 42, 6, 103, 39);
        x.link(6, 0);
        // the ways are those in a ring of seven; lookups of 6 and 5 from 1 and of 6 from 2 go the longer
        // way round, and so do those the other way
        duesMeasures("a row with links", x, 42, 42, 3, 84, 42, 5, 94, 36);
        LinkRewirer apart = grid(3, 1);
        apart.leave(1);
        duesMeasures("apart", apart, 2, 0, 0, 0, 0, 0, 0, 0);
        apart.link(0, 2);
        duesMeasures("one way", apart, 2, 1, 1, 1, 1, 1, 1, 1);
        LinkRewirer ring = grid(3, 3);
        ring.leave(1);
        // lookups of 2 from 0, 3 and 6 fail at 0, those of 0 from 2, 5 and 8 fail at 2
        duesMeasures("around a gap", ring, 56, 56, 4, 118, 50, 4, 96, 50);
        duesMeasures("single", grid(1, 1), 0, 0, 0, 0, 0, 0, 0, 0);
        due("measure(-1)", x.measure(-1), BAD);
        due("measure(8)", x.measure(8), BAD);
        due("measure(HIGH)", x.measure(HIGH), BAD);
        due("measure(LOW)", x.measure(LOW), BAD);
    }

    private static void duesMeasures(String name, LinkRewirer x, int... wants) {
        for (int what = 0; what < wants.length; what++) {
            due(name + ": measure(" + what + ")", x.measure(what), wants[what]);
        }
    }

    // promise 21
    private static void mean() {
        LinkRewirer x = grid(7, 1);
        x.link(0, 6);
        CHECK.dueFloat("mean", x.mean(), 103.0f / 42.0f);
        CHECK.dueFloat("mean of 4 by 4", new LinkRewirer().mean(), 640.0f / 240.0f);
        CHECK.dueFloat("no pairs", grid(1, 1).mean(), 0.0f);
        LinkRewirer apart = grid(3, 1);
        apart.leave(1);
        CHECK.dueFloat("no lookup reaches its end", apart.mean(), 0.0f);
    }

    // promise 22
    private static void keep() {
        LinkRewirer x = new LinkRewirer();
        due("keep(-1)", x.keep(-1), BAD);
        due("keep(2)", x.keep(2), BAD);
        due("keep(HIGH)", x.keep(HIGH), BAD);
        due("nothing kept", x.back(1), STATE);
        x.link(0, 5);
        x.link(1, 5);
        due("keep(1)", x.keep(1), 2);
        due("no change", x.told(9), 2);
        due("the other keeps nothing", x.back(0), STATE);
        x.link(2, 5);
        due("keep(1) again", x.keep(1), 3);
        x.undo();
        x.undo();
        due("the later one", x.back(1), 3);
    }

    // promise 23
    private static void back() {
        LinkRewirer x = grid(5, 2);
        due("back(-1)", x.back(-1), BAD);
        due("back(2)", x.back(2), BAD);
        due("back(LOW)", x.back(LOW), BAD);
        due("back(0)", x.back(0), STATE);
        x.set(0, 3);
        x.set(1, 1);
        x.set(2, 5);
        x.set(3, 12);
        x.link(0, 9);
        x.exchange(1, 2);
        x.leave(4);
        String kept = seen(x);
        due("keep(0)", x.keep(0), 1);
        x.begin(2, 2);
        x.set(0, 1);
        x.set(1, 2);
        x.set(2, 6);
        x.set(3, 13);
        x.link(0, 3);
        due("keep(1)", x.keep(1), 1);
        String other = seen(x);
        due("back(0)", x.back(0), 1);
        CHECK.dueText("what was kept", seen(x), kept);
        x.link(0, 8);
        due("the image stays", x.back(0), 1);
        CHECK.dueText("what was kept, again", seen(x), kept);
        due("a change", x.told(9), 8);
        x.undo();
        due("undone", x.told(3), 2);
        x.undo();
        x.undo();
        CHECK.dueText("before all that", seen(x), other);
        due("images do not belong to a state", x.back(0), 1);
    }

    // CHANGES: at most 8 states, the oldest one is dropped
    private static void history() {
        LinkRewirer x = new LinkRewirer();
        for (int i = 1; i <= 8; i++) {
            x.set(3, 100 + i);
            due("changes", x.told(9), i);
        }
        x.set(3, 109);
        due("eight at most", x.told(9), 8);
        x.set(3, 110);
        for (int i = 7; i >= 0; i--) {
            due("undo", x.undo(), i);
            due("the seed before", x.told(8), 102 + i);
        }
        due("no more", x.undo(), STATE);
        due("the dropped ones are lost", x.told(8), 102);
        for (int i = 1; i <= 20; i++) {
            x.link(i % 16, (i + 5) % 16);
            if (i % 3 == 0) {
                due("one back", x.undo(), Math.min(7, i / 3 * 2));
            }
        }
    }

    /** Every call that returns an error code, also in a state where several things are so. */
    private static void faultsChangeNothing() {
        LinkRewirer x = new LinkRewirer();
        x.set(0, 3);
        x.link(0, 15);
        x.link(0, 14);
        x.exchange(5, 6);
        x.leave(9);
        x.keep(0);
        String before = seen(x);
        int[] answers = {x.begin(0, 4), x.begin(4, 8), x.link(0, 0), x.link(0, 16), x.unlink(0, 2), x.unlink(1, 0),
            x.drawLink(0, 3), x.drawLink(-1, 0), x.seek(0, 16), x.seekSome(0), x.seekSome(21), x.exchange(2, 2),
            x.exchange(2, 16), x.leave(16), x.enter(16), x.set(0, 4), x.set(3, -1), x.told(10), x.node(0, 7),
            x.target(0, -1), x.distance(0, 16), x.route(0, 1, -3), x.way(0, 16), (int) x.paths(0, 16), x.measure(8),
            x.keep(2), x.back(2)};
        for (int i = 0; i < answers.length; i++) {
            due("wrong call " + i, answers[i], BAD);
        }
        int[] states = {x.link(0, 9), x.link(9, 0), x.drawLink(9, 0), x.seek(9, 0), x.seek(9, 9), x.exchange(9, 0),
            x.leave(9), x.enter(0), x.route(9, 9, 0), x.way(9, 9), (int) x.paths(9, 9), x.back(1)};
        for (int i = 0; i < states.length; i++) {
            due("impossible call " + i, states[i], STATE);
        }
        CHECK.dueText("after all wrong calls", seen(x), before);
        due("changes", x.told(9), 5);
    }
}
