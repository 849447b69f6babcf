/** For each promise of the document, ordinary inputs; its boundary cases are in the tests ..CasesTest. */
public final class PromisesTest extends Cases {
    public static void main(String[] args) throws IllegalAccessException {
        run(PromisesTest::new);
    }

    void promise1_ordinary() {
        duesTold(x, 16, 4, 16, 0, 0, 2, 0, 3, 1, 0);
        duesMeasures(x, 240, 240, 6, 640, 240, 6, 640, 240);
    }

    void promise2_ordinary() {
        x.link(0, 5);
        x.leave(3);
        due("begin(5, 3)", x.begin(5, 3), 16);
        duesTold(x, 15, 5, 15, 0, 0, 2, 0, 3, 1, 3);
        due("distance(0, 14)", x.distance(0, 14), 6);
        due("begin(2, 6)", x.begin(2, 6), 15);
        due("undo()", x.undo(), 3);
        due("told(1)", x.told(1), 5);
    }

    void promise3_ordinary() {
        due("link(0, 1)", x.link(0, 1), 1);
        due("link(0, 15)", x.link(0, 15), 2);
        due("link(0, 10)", x.link(0, 10), 2);
        duesTargets(x, 0, 15, 10);
        duesTargets(x, 15);
        due("told(4)", x.told(4), 6 + 4);
        due("told(9)", x.told(9), 3);
    }

    void promise4_ordinary() {
        x.link(2, 8);
        x.link(2, 9);
        due("unlink(2, 0)", x.unlink(2, 0), 8);
        duesTargets(x, 2, 9);
        due("undo()", x.undo(), 2);
        duesTargets(x, 2, 8, 9);
    }

    void promise5_ordinary() {
        // the number is 16838 modulo 13, which is 3; the possible targets are 2, 3, 5, 6, 7, .. 15
        due("drawLink(0, 0)", x.drawLink(0, 0), 6);
        due("told(8)", x.told(8), 1103527590);
        duesTargets(x, 0, 6);
    }

    /** In a column of seven, the targets of node 0 are 2 to 6, at the distances 2 to 6. */
    void promise5_ordinaryByManySeeds() {
        int[][] weights = {{1, 1, 1, 1, 1}, {30, 20, 15, 12, 10}, {900, 400, 225, 144, 100}};
        int[] sums = {5, 87, 1769};
        for (int seed = 0; seed < 3000; seed++) {
            int exponent = seed % 3;
            int number = drawn(seed, 1, sums[exponent]);
            int want = 1;
            while (number >= 0) {
                number -= weights[exponent][want - 1];
                want++;
            }
            LinkRewirer column = grid(1, 7);
            column.set(3, seed);
            due("drawLink(0, " + exponent + ") from the seed " + seed, column.drawLink(0, exponent), want);
        }
    }

    void promise6_ordinaryByRuleOne() {
        x.set(1, 1);
        due("seek(0, 10)", x.seek(0, 10), 4);
        due("seek(0, 10) again", x.seek(0, 10), 1);
        due("seek(4, 10)", x.seek(4, 10), 3);
        duesTargets(x, 0, 10);
        duesTargets(x, 4, 10);
        due("told(3)", x.told(3), 2);
    }

    void promise6_ordinaryByRuleTwo() {
        for (int chance = 1; chance <= 9; chance++) {
            LinkRewirer y = new LinkRewirer();
            y.set(1, 2);
            y.set(2, chance);
            due("seek(0, 15)", y.seek(0, 15), 6);
            int[] route = {0, 1, 2, 3, 7, 11};
            for (int i = 0; i < 6; i++) {
                int want = drawn(1, i + 1, chance) == 0 ? 15 : NONE;
                due("target(" + route[i] + ", 0) by the chance " + chance, y.target(route[i], 0), want);
            }
            due("told(8)", y.told(8), seedAfter(1, 6));
        }
    }

    void promise6_ordinaryByRuleThree() {
        x.set(1, 3);
        due("seek(12, 3)", x.seek(12, 3), 6);
        duesTargets(x, 0, 3);
        due("seek(8, 11)", x.seek(8, 11), 3);
        duesTargets(x, 9, 11);
        due("told(3)", x.told(3), 2);
    }

    /** In a row of five without its third node, what is looked up must be on the same side. */
    void promise7_ordinary() {
        LinkRewirer row = grid(5, 1);
        row.leave(2);
        long seed = 1;
        for (int n = 1; n <= 20; n++) {
            int reached = 0;
            for (int i = 0; i < n; i++) {
                int s = drawn(seed, 1, 5);
                int t = drawn(seed, 2, 5);
                seed = seedAfter(seed, 2);
                reached += s != 2 && t != 2 && s < 2 == t < 2 ? 1 : 0;
            }
            due("seekSome(" + n + ")", row.seekSome(n), reached);
            due("told(8)", row.told(8), seed);
        }
    }

    void promise8_ordinary() {
        x.link(0, 14);
        due("told(4)", x.told(4), 5);
        due("exchange(14, 8)", x.exchange(14, 8), 1);
        due("told(4), exchanged", x.told(4), 2);
        due("node(14, 0)", x.node(14, 0), 8);
        due("node(8, 0)", x.node(8, 0), 14);
        duesRoute(x, 4, 13, 4, 5, 9, 13);
        duesRoute(x, 12, 14, 12, 14);
        due("exchange(14, 15)", x.exchange(14, 15), 0);
        due("node(14, 0), not exchanged", x.node(14, 0), 8);
    }

    void promise9_ordinary() {
        x.link(5, 1);
        x.link(5, 0);
        x.link(0, 5);
        x.link(0, 6);
        x.link(1, 0);
        due("leave(5)", x.leave(5), 3);
        duesTargets(x, 0, 6);
        duesTold(x, 16, 4, 15, 2);
        due("undo()", x.undo(), 5);
        duesTargets(x, 0, 5, 6);
        duesTargets(x, 5, 1, 0);
    }

    void promise10_ordinary() {
        x.leave(5);
        x.leave(6);
        due("enter(5)", x.enter(5), 3);
        due("enter(6)", x.enter(6), 4);
        duesTold(x, 16, 4, 16, 0);
        duesRoute(x, 4, 7, 4, 5, 6, 7);
    }

    void promise11_ordinary() {
        due("set(0, 3)", x.set(0, 3), 2);
        due("set(1, 2)", x.set(1, 2), 0);
        due("set(2, 5)", x.set(2, 5), 3);
        due("set(3, 60)", x.set(3, 60), 1);
        due("set(3, 61)", x.set(3, 61), 60);
        duesTold(x, 16, 4, 16, 0, 0, 3, 2, 5, 61, 5);
    }

    void promise12_ordinary() {
        x.set(0, 1);
        x.set(3, 60);
        x.link(0, 9);
        due("undo() of link", x.undo(), 2);
        duesTold(x, 16, 4, 16, 0, 0, 1, 0, 3, 60, 2);
        due("undo() of the seed", x.undo(), 1);
        duesTold(x, 16, 4, 16, 0, 0, 1, 0, 3, 1, 1);
        due("undo() of the limit", x.undo(), 0);
        duesTold(x, 16, 4, 16, 0, 0, 2, 0, 3, 1, 0);
    }

    void promise13_ordinary() {
        LinkRewirer y = grid(5, 3);
        y.link(0, 14);
        y.link(0, 1);
        y.link(7, 8);
        y.leave(12);
        y.set(0, 3);
        y.set(2, 8);
        duesTold(y, 15, 5, 14, 3, 8, 3, 0, 8, 1, 7);
    }

    void promise14_ordinary() {
        LinkRewirer y = grid(3, 2);
        y.link(0, 1);
        y.link(0, 5);
        y.link(4, 5);
        y.exchange(2, 3);
        duesNode(y, 0, 0, 1, 3, 2, 0, 5, 2);
        duesNode(y, 2, 3, 1, 2, 0, 0, 5, 3);
        duesNode(y, 5, 5, 1, 2, 0, 2, 5, 3);
        y.leave(5);
        duesNode(y, 0, 0, 1, 2, 1, 0, 4, 2);
    }

    void promise15_ordinary() {
        x.link(6, 2);
        x.link(6, 12);
        due("target(6, 0)", x.target(6, 0), 2);
        due("target(6, 1)", x.target(6, 1), 12);
        due("target(6, 2)", x.target(6, 2), NONE);
    }

    void promise16_ordinary() {
        LinkRewirer large = grid(7, 7);
        due("distance(8, 26)", large.distance(8, 26), 6);
        due("distance(6, 7)", large.distance(6, 7), 7);
        large.exchange(0, 24);
        due("distance(0, 48)", large.distance(0, 48), 6);
        due("distance(24, 48)", large.distance(24, 48), 12);
    }

    void promise17_ordinary() {
        x.link(1, 14);
        duesRoute(x, 0, 15, 0, 1, 14, 15);
        duesRoute(x, 0, 12, 0, 4, 8, 12);
        x.exchange(1, 10);
        duesRoute(x, 0, 2, 0, 10, 2);
    }

    void promise18_ordinary() {
        LinkRewirer row = grid(7, 1);
        due("way(0, 6)", row.way(0, 6), 6);
        row.link(0, 6);
        due("way(0, 6), by the link", row.way(0, 6), 1);
        due("way(1, 6), first away", row.way(1, 6), 2);
        due("way(0, 4), beyond the link", row.way(0, 4), 3);
        due("way(6, 0)", row.way(6, 0), 6);
    }

    void promise19_ordinary() {
        due("paths(0, 15)", x.paths(0, 15), 20);
        due("paths(0, 5)", x.paths(0, 5), 2);
        x.link(0, 10);
        due("paths(0, 15), by the link", x.paths(0, 15), 2);
        x.leave(5);
        x.leave(2);
        due("paths(0, 3), by the link and without it", x.paths(0, 3), 2);
    }

    void promise20_ordinary() {
        LinkRewirer row = grid(7, 1);
        duesMeasures(row, 42, 42, 6, 112, 42, 6, 112, 42);
        row.link(0, 6);
        duesMeasures(row, 42, 42, 6, 98, 42, 6, 103, 39);
        row.link(6, 0);
        // the ways are those in a ring of seven; lookups of 6 and 5 from 1 and of 6 from 2 go the longer
        // way round, and so do those the other way
        duesMeasures(row, 42, 42, 3, 84, 42, 5, 94, 36);
    }

    void promise21_ordinary() {
        LinkRewirer row = grid(7, 1);
        row.link(0, 6);
        dueFloat("mean()", row.mean(), 103.0f / 42.0f);
    }

    void promise22_ordinary() {
        x.link(0, 5);
        x.link(1, 5);
        due("keep(1)", x.keep(1), 2);
        x.link(2, 5);
        due("keep(0)", x.keep(0), 3);
        x.begin(7, 7);
        due("back(1)", x.back(1), 2);
        duesTargets(x, 0, 5);
        duesTargets(x, 2);
    }

    void promise23_ordinary() {
        x.link(0, 9);
        x.set(3, 12);
        String kept = seen(x);
        x.keep(0);
        x.begin(5, 2);
        x.link(3, 4);
        String other = seen(x);
        due("back(0)", x.back(0), 1);
        dueText("what was kept", seen(x), kept);
        due("undo()", x.undo(), 4);
        dueText("what was before", seen(x), other);
    }
}
