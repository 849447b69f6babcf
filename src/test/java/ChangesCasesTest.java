/** The boundary cases that the document names in promises 1 to 12. */
public final class ChangesCasesTest extends Cases {
    /** The weights for the exponents 0 to 2, each by the distance. */
    private static final int[][] WEIGHTS = {
        {0, 0, 1, 1, 1, 1, 1, 1, 1, 1, 1, 1, 1},
        {0, 0, 30, 20, 15, 12, 10, 8, 7, 6, 6, 5, 5},
        {0, 0, 900, 400, 225, 144, 100, 73, 56, 44, 36, 29, 25}};

    public static void main(String[] args) throws IllegalAccessException {
        run(ChangesCasesTest::new);
    }

    // Promise 1: "a network of 4 columns and 4 rows; the images keep nothing, and nothing can be undone"

    void promise1_fourByFour() {
        duesTold(x, 16, 4, 16, 0, 0, 2, 0, 3, 1, 0);
        due("distance(0, 15)", x.distance(0, 15), 6);
    }

    void promise1_imagesKeepNothing() {
        due("back(0)", x.back(0), STATE);
        due("back(1)", x.back(1), STATE);
    }

    void promise1_nothingCanBeUndone() {
        due("told(9)", x.told(9), 0);
        due("undo()", x.undo(), STATE);
    }

    void promise1_objectsShareNothing() {
        x.set(3, 9);
        x.link(0, 5);
        x.keep(0);
        LinkRewirer other = new LinkRewirer();
        duesTold(other, 16, 4, 16, 0, 0, 2, 0, 3, 1, 0);
        due("back(0) of another object", other.back(0), STATE);
        other.begin(7, 7);
        due("told(0) of the first", x.told(0), 16);
        due("told(9) of the first", x.told(9), 2);
    }

    // Promise 2: "columns: W, 1 to 7", "rows: H, 1 to 7", "BAD if an argument is out of range"

    void promise2_columnsTooSmall() {
        dueBadBelow(1, "begin(v, 4)", v -> x.begin(v, 4));
    }

    void promise2_columnsTooLarge() {
        dueBadAbove(7, "begin(v, 4)", v -> x.begin(v, 4));
    }

    void promise2_rowsTooSmall() {
        dueBadBelow(1, "begin(4, v)", v -> x.begin(4, v));
    }

    void promise2_rowsTooLarge() {
        dueBadAbove(7, "begin(4, v)", v -> x.begin(4, v));
    }

    void promise2_bothOutOfRange() {
        due("begin(0, 0)", x.begin(0, 0), BAD);
        due("begin(-2, -2)", x.begin(-2, -2), BAD);
        due("begin(8, 8)", x.begin(8, 8), BAD);
    }

    void promise2_allSizes() {
        int before = 16;
        for (int columns = 1; columns <= 7; columns++) {
            for (int rows = 1; rows <= 7; rows++) {
                due("begin(" + columns + ", " + rows + ")", x.begin(columns, rows), before);
                before = columns * rows;
                duesTold(x, before, columns, before, 0, 0);
                due("distance of the corners", x.distance(0, before - 1), columns + rows - 2);
            }
        }
    }

    // "all nodes are present, node k has the place k, and there are no long links"

    void promise2_absentNodesReturn() {
        x.leave(3);
        x.leave(15);
        x.begin(4, 4);
        due("told(2)", x.told(2), 16);
        due("node(3, 1)", x.node(3, 1), 1);
        due("node(15, 1)", x.node(15, 1), 1);
    }

    void promise2_placesAreAsAtFirst() {
        x.exchange(0, 15);
        x.begin(4, 4);
        due("node(0, 0)", x.node(0, 0), 0);
        due("node(15, 0)", x.node(15, 0), 15);
        due("way(0, 1)", x.way(0, 1), 1);
    }

    void promise2_noLongLinksAreLeft() {
        x.link(0, 5);
        x.link(15, 0);
        x.begin(4, 4);
        due("told(3)", x.told(3), 0);
        due("node(0, 4)", x.node(0, 4), 0);
        duesTargets(x, 0);
        duesTargets(x, 15);
    }

    void promise2_fromLargestToSmallest() {
        LinkRewirer large = grid(7, 7);
        large.set(0, 3);
        large.link(48, 0);
        due("begin(1, 1)", large.begin(1, 1), 49);
        duesTold(large, 1, 1, 1, 0, 0);
        due("node(48, 0)", large.node(48, 0), BAD);
        due("begin(7, 7)", large.begin(7, 7), 1);
        duesTold(large, 49, 7, 49, 0, 0);
        duesNode(large, 48, 48, 1, 2, 0, 0, 48, 12);
    }

    // "The seed, the limit, the rule and the chance stay."

    void promise2_settingsStay() {
        x.set(0, 3);
        x.set(1, 2);
        x.set(2, 7);
        x.set(3, 99);
        x.begin(3, 2);
        duesTold(x, 6, 3, 6, 0, 0, 3, 2, 7, 99, 5);
    }

    // Promise 3: "BAD if there is no such node, or both are the same; STATE if one of them is absent"

    void promise3_nodeTooSmall() {
        dueBadBelow(0, "link(v, 5)", v -> x.link(v, 5));
    }

    void promise3_nodeTooLarge() {
        dueBadAbove(15, "link(v, 5)", v -> x.link(v, 5));
    }

    void promise3_targetTooSmall() {
        dueBadBelow(0, "link(5, v)", v -> x.link(5, v));
    }

    void promise3_targetTooLarge() {
        dueBadAbove(15, "link(5, v)", v -> x.link(5, v));
    }

    void promise3_lastAndFirstNode() {
        due("link(15, 0)", x.link(15, 0), 1);
        due("link(0, 15)", x.link(0, 15), 1);
    }

    void promise3_bothTheSame() {
        for (int u = 0; u < 16; u++) {
            due("link(" + u + ", " + u + ")", x.link(u, u), BAD);
        }
    }

    void promise3_nodeIsAbsent() {
        x.leave(5);
        due("link(5, 0)", x.link(5, 0), STATE);
    }

    void promise3_targetIsAbsent() {
        x.leave(5);
        due("link(0, 5)", x.link(0, 5), STATE);
    }

    void promise3_bothAreAbsent() {
        x.leave(5);
        x.leave(6);
        due("link(5, 6)", x.link(5, 6), STATE);
    }

    // "whatever its length"

    void promise3_shortestAndLongestLink() {
        LinkRewirer large = grid(7, 7);
        due("link(0, 1)", large.link(0, 1), 1);
        due("link(0, 48)", large.link(0, 48), 2);
        due("told(4)", large.told(4), 13);
    }

    // "Returns the number of long links of u then"

    void promise3_numberAtTheLimit() {
        due("link(0, 5)", x.link(0, 5), 1);
        due("link(0, 6)", x.link(0, 6), 2);
        due("link(0, 7)", x.link(0, 7), 2);
        due("link(0, 7), there", x.link(0, 7), 2);
        due("link(1, 7), another node", x.link(1, 7), 1);
    }

    // Promise 4: "k: the index of the link, 0 for the oldest one", "BAD if there is no such node or link"

    void promise4_nodeTooSmall() {
        dueBadBelow(0, "unlink(v, 0)", v -> x.unlink(v, 0));
    }

    void promise4_nodeTooLarge() {
        dueBadAbove(15, "unlink(v, 0)", v -> x.unlink(v, 0));
    }

    void promise4_indexTooSmall() {
        x.link(5, 0);
        dueBadBelow(0, "unlink(5, v)", v -> x.unlink(5, v));
    }

    void promise4_indexTooLarge() {
        threeLinks();
        dueBadAbove(2, "unlink(5, v)", v -> x.unlink(5, v));
    }

    void promise4_noLinks() {
        due("unlink(5, 0)", x.unlink(5, 0), BAD);
    }

    void promise4_linkOfTheNextNode() {
        x.link(6, 0);
        due("unlink(5, 0)", x.unlink(5, 0), BAD);
        due("unlink(5, 3)", x.unlink(5, 3), BAD);
    }

    void promise4_absentNodeHasNoLink() {
        x.link(5, 0);
        x.leave(5);
        due("unlink(5, 0)", x.unlink(5, 0), BAD);
    }

    void promise4_theOldest() {
        threeLinks();
        due("unlink(5, 0)", x.unlink(5, 0), 0);
        duesTargets(x, 5, 10, 15);
    }

    void promise4_theMiddle() {
        threeLinks();
        due("unlink(5, 1)", x.unlink(5, 1), 10);
        duesTargets(x, 5, 0, 15);
    }

    void promise4_theNewest() {
        threeLinks();
        due("unlink(5, 2)", x.unlink(5, 2), 15);
        duesTargets(x, 5, 0, 10);
    }

    void promise4_theOnlyOne() {
        x.link(5, 0);
        due("unlink(5, 0)", x.unlink(5, 0), 0);
        duesTargets(x, 5);
        due("unlink(5, 0) again", x.unlink(5, 0), BAD);
    }

    void promise4_isAChange() {
        threeLinks();
        dueChange("unlink(5, 1)", x, y -> y.unlink(5, 1), 10);
    }

    private void threeLinks() {
        x.set(0, 3);
        x.link(5, 0);
        x.link(5, 10);
        x.link(5, 15);
    }

    // Promise 5: "exponent: 0 to 2", "BAD if there is no such node or exponent is out of range; STATE if it is absent"

    void promise5_nodeTooSmall() {
        dueBadBelow(0, "drawLink(v, 0)", v -> x.drawLink(v, 0));
    }

    void promise5_nodeTooLarge() {
        dueBadAbove(15, "drawLink(v, 0)", v -> x.drawLink(v, 0));
    }

    void promise5_exponentTooSmall() {
        dueBadBelow(0, "drawLink(0, v)", v -> x.drawLink(0, v));
    }

    void promise5_exponentTooLarge() {
        dueBadAbove(2, "drawLink(0, v)", v -> x.drawLink(0, v));
    }

    void promise5_nodeIsAbsent() {
        x.leave(0);
        for (int exponent = 0; exponent <= 2; exponent++) {
            due("drawLink(0, " + exponent + ")", x.drawLink(0, exponent), STATE);
        }
        due("told(8)", x.told(8), 1);
    }

    // "all present nodes, except itself, its neighbors, and the targets of its long links"

    void promise5_onlyOneIsPossible() {
        LinkRewirer row = grid(3, 1);
        for (int exponent = 0; exponent <= 2; exponent++) {
            due("drawLink(0, " + exponent + ")", row.drawLink(0, exponent), 2);
            row.unlink(0, 0);
        }
        due("told(8), drawn all the same", row.told(8), seedAfter(1, 3));
    }

    void promise5_absentNodesAreNotPossible() {
        LinkRewirer row = grid(7, 1);
        for (int u : new int[] {2, 3, 5, 6}) {
            row.leave(u);
        }
        due("drawLink(0, 0)", row.drawLink(0, 0), 4);
    }

    void promise5_targetsAreNotPossible() {
        LinkRewirer row = grid(5, 1);
        row.link(0, 2);
        row.link(0, 4);
        due("drawLink(0, 2)", row.drawLink(0, 2), 3);
        duesTargets(row, 0, 4, 3);
    }

    void promise5_neighborsByPlaceAreNotPossible() {
        LinkRewirer row = grid(3, 1);
        row.exchange(1, 2);
        due("drawLink(0, 0)", row.drawLink(0, 0), 1);
    }

    void promise5_nodesThatLinkToItArePossible() {
        LinkRewirer row = grid(3, 1);
        row.link(2, 0);
        due("drawLink(0, 0)", row.drawLink(0, 0), 2);
    }

    // "NONE if there is no possible target (then nothing is drawn, and this is a change all the same)"

    void promise5_noneIfAloneOnTheGrid() {
        dueNone(grid(1, 1), 0);
    }

    void promise5_noneIfAllOthersAreAbsent() {
        for (int u = 1; u < 16; u++) {
            x.leave(u);
        }
        dueNone(x, 0);
    }

    void promise5_noneIfAllOthersAreNeighbors() {
        dueNone(grid(3, 1), 1);
    }

    void promise5_noneIfAllOthersAreTargets() {
        LinkRewirer row = grid(4, 1);
        row.link(0, 2);
        row.link(0, 3);
        dueNone(row, 0);
        duesTargets(row, 0, 2, 3);
    }

    private void dueNone(LinkRewirer y, int u) {
        for (int exponent = 0; exponent <= 2; exponent++) {
            int e = exponent;
            dueChange("drawLink(" + u + ", " + e + ")", y, z -> z.drawLink(u, e), NONE);
            due("drawLink(" + u + ", " + e + ")", y.drawLink(u, e), NONE);
            due("told(8)", y.told(8), 1);
        }
    }

    // "The weight of a target at the distance d is 1 for the exponent 0, 60 / d for the exponent 1, and
    // 3600 / (d * d) for the exponent 2, each rounded down." and "the target is the first one, in ascending order,
    // for which the sum of the weights up to it, itself included, is greater than this number"

    void promise5_exponentZeroByTheLeastAndMostNumbers() {
        dueEdgesOfWeights(0);
    }

    void promise5_exponentOneByTheLeastAndMostNumbers() {
        dueEdgesOfWeights(1);
    }

    void promise5_exponentTwoByTheLeastAndMostNumbers() {
        dueEdgesOfWeights(2);
    }

    /** For each target of a corner of the largest grid, the least and the greatest number that make it the one. */
    private void dueEdgesOfWeights(int exponent) {
        int[] weights = new int[49];
        int sum = 0;
        for (int v = 0; v < 49; v++) {
            weights[v] = WEIGHTS[exponent][v % 7 + v / 7];
            sum += weights[v];
        }
        int first = 0;
        for (int v = 0; v < 49; v++) {
            if (weights[v] > 0) {
                dueDrawn(exponent, seedFor(sum, first), v);
                dueDrawn(exponent, seedFor(sum, first + weights[v] - 1), v);
                first += weights[v];
            }
        }
    }

    private void dueDrawn(int exponent, int seed, int want) {
        LinkRewirer large = grid(7, 7);
        large.set(3, seed);
        due("drawLink(0, " + exponent + ") from the seed " + seed, large.drawLink(0, exponent), want);
        due("told(8) then", large.told(8), seedAfter(seed));
        duesTargets(large, 0, want);
    }

    void promise5_firstAndLastNodeArePossible() {
        LinkRewirer row = grid(7, 1);
        row.set(3, seedFor(4, 0));
        due("drawLink(5, 0) with the number 0", row.drawLink(5, 0), 0);
        row.undo();
        row.set(3, seedFor(4, 3));
        due("drawLink(5, 0) with the number 3", row.drawLink(5, 0), 3);
        row.set(3, seedFor(4, 3));
        due("drawLink(1, 0) with the number 3", row.drawLink(1, 0), 6);
    }

    void promise5_ascendingOrderIsThatOfNodes() {
        LinkRewirer row = grid(7, 1);
        // 2 is at the distance 6 now, and 6 at 2
        row.exchange(2, 6);
        int sum = 100 + 400 + 225 + 144 + 900;
        int[][] wants = {{0, 2}, {99, 2}, {100, 3}, {499, 3}, {500, 4}, {869, 6}, {sum - 1, 6}};
        for (int[] want : wants) {
            row.set(3, seedFor(sum, want[0]));
            due("drawLink(0, 2) with the number " + want[0], row.drawLink(0, 2), want[1]);
            row.undo();
        }
    }

    void promise5_atTheLimitTheOldestIsRemoved() {
        LinkRewirer row = grid(5, 1);
        row.set(0, 1);
        row.link(0, 2);
        row.leave(3);
        due("drawLink(0, 1)", row.drawLink(0, 1), 4);
        duesTargets(row, 0, 4);
    }

    // Promise 6: "NONE if the lookup fails; BAD if there is no such node; STATE if one of them is absent"

    void promise6_beginTooSmall() {
        dueBadBelow(0, "seek(v, 5)", v -> x.seek(v, 5));
    }

    void promise6_beginTooLarge() {
        dueBadAbove(15, "seek(v, 5)", v -> x.seek(v, 5));
    }

    void promise6_endTooSmall() {
        dueBadBelow(0, "seek(5, v)", v -> x.seek(5, v));
    }

    void promise6_endTooLarge() {
        dueBadAbove(15, "seek(5, v)", v -> x.seek(5, v));
    }

    void promise6_beginIsAbsent() {
        x.leave(5);
        due("seek(5, 0)", x.seek(5, 0), STATE);
    }

    void promise6_endIsAbsent() {
        x.leave(5);
        due("seek(0, 5)", x.seek(0, 5), STATE);
    }

    void promise6_bothAreTheSameAbsentNode() {
        x.leave(5);
        due("seek(5, 5)", x.seek(5, 5), STATE);
    }

    void promise6_possiblyTheSame() {
        for (int rule = 0; rule <= 3; rule++) {
            x.set(1, rule);
            dueChange("seek(15, 15) by rule " + rule, x, y -> y.seek(15, 15), 0);
        }
        due("told(3)", x.told(3), 0);
    }

    void promise6_lookupFails() {
        x.leave(8);
        due("seek(0, 12)", x.seek(0, 12), NONE);
        due("told(9)", x.told(9), 2);
    }

    void promise6_longestLookup() {
        due("seek(0, 48)", grid(7, 7).seek(0, 48), 12);
    }

    void promise6_stepsAreThoseBeforeRewiring() {
        x.set(1, 1);
        due("seek(0, 15)", x.seek(0, 15), 6);
        due("seek(0, 15) again", x.seek(0, 15), 1);
    }

    // Promise 7: "n: the number of lookups, 1 to 20", "BAD if n is out of range"

    void promise7_tooFew() {
        dueBadBelow(1, "seekSome(v)", v -> x.seekSome(v));
    }

    void promise7_tooMany() {
        dueBadAbove(20, "seekSome(v)", v -> x.seekSome(v));
    }

    void promise7_oneLookup() {
        due("seekSome(1)", x.seekSome(1), 1);
        due("told(8)", x.told(8), seedAfter(1, 2));
    }

    void promise7_twentyLookups() {
        due("seekSome(20)", x.seekSome(20), 20);
        due("told(8)", x.told(8), seedAfter(1, 40));
    }

    // "a number below N is drawn for s, then one for t"

    void promise7_firstTheBeginThenTheEnd() {
        x.set(1, 1);
        x.set(3, seedFor(16, 0, 15));
        due("seekSome(1)", x.seekSome(1), 1);
        duesTargets(x, 0, 15);
        due("told(3)", x.told(3), 1);
    }

    // "if both nodes are present (also if they are the same), t is looked up from s as by seek()"

    void promise7_theSameNodeIsLookedUp() {
        x.set(1, 1);
        x.set(3, seedFor(16, 5, 5));
        due("seekSome(1)", x.seekSome(1), 1);
        due("told(3)", x.told(3), 0);
    }

    void promise7_beginIsAbsent() {
        dueOfPair(1, 0, 0);
    }

    void promise7_endIsAbsent() {
        dueOfPair(0, 1, 0);
    }

    void promise7_bothAreTheSameAbsentNode() {
        dueOfPair(1, 1, 0);
    }

    void promise7_bothAreTheOnlyPresentNode() {
        dueOfPair(0, 0, 1);
    }

    /** Of two nodes, 1 is absent; both numbers are drawn in any case. */
    private void dueOfPair(int s, int t, int want) {
        LinkRewirer pair = grid(2, 1);
        pair.leave(1);
        int seed = seedFor(2, s, t);
        pair.set(3, seed);
        due("seekSome(1) of " + s + " and " + t, pair.seekSome(1), want);
        due("told(8)", pair.told(8), seedAfter(seed, 2));
    }

    void promise7_failedLookupsAreNotCounted() {
        LinkRewirer row = grid(3, 1);
        row.leave(1);
        row.set(1, 1);
        row.set(3, seedFor(3, 0, 2, 0, 0));
        due("seekSome(2)", row.seekSome(2), 1);
        due("told(3)", row.told(3), 0);
    }

    void promise7_oneAfterTheOther() {
        for (int rule = 0; rule <= 3; rule++) {
            LinkRewirer some = grid(5, 3);
            LinkRewirer single = grid(5, 3);
            some.set(1, rule);
            single.set(1, rule);
            some.leave(7);
            single.leave(7);
            int reached = 0;
            for (int i = 0; i < 20; i++) {
                int seed = single.told(8);
                single.set(3, (int) seedAfter(seed, 2));
                reached += single.seek(drawn(seed, 1, 15), drawn(seed, 2, 15)) >= 0 ? 1 : 0;
            }
            due("seekSome(20) by rule " + rule, some.seekSome(20), reached);
            dueText("the network then", seen(some), seen(single));
        }
    }

    // "This is one change."

    void promise7_isOneChange() {
        x.set(1, 2);
        x.set(2, 1);
        dueChange("seekSome(20)", x, y -> y.seekSome(20), 20);
        dueChange("seekSome(1)", x, y -> y.seekSome(1), 1);
    }

    // Promise 8: "BAD if there is no such node, or both are the same; STATE if one of them is absent"

    void promise8_nodeTooSmall() {
        dueBadBelow(0, "exchange(v, 5)", v -> x.exchange(v, 5));
        dueBadBelow(0, "exchange(5, v)", v -> x.exchange(5, v));
    }

    void promise8_nodeTooLarge() {
        dueBadAbove(15, "exchange(v, 5)", v -> x.exchange(v, 5));
        dueBadAbove(15, "exchange(5, v)", v -> x.exchange(5, v));
    }

    void promise8_bothTheSame() {
        for (int u = 0; u < 16; u++) {
            due("exchange(" + u + ", " + u + ")", x.exchange(u, u), BAD);
        }
    }

    void promise8_firstIsAbsent() {
        x.leave(5);
        due("exchange(5, 0)", x.exchange(5, 0), STATE);
    }

    void promise8_secondIsAbsent() {
        x.leave(5);
        due("exchange(0, 5)", x.exchange(0, 5), STATE);
    }

    void promise8_bothAreAbsent() {
        x.leave(5);
        x.leave(6);
        due("exchange(5, 6)", x.exchange(5, 6), STATE);
    }

    // "if this does not make the sum of the lengths of all long links greater"

    void promise8_withoutLinks() {
        due("exchange(0, 15)", x.exchange(0, 15), 1);
        due("node(0, 0)", x.node(0, 0), 15);
        due("node(15, 0)", x.node(15, 0), 0);
    }

    void promise8_sumGreaterByOne() {
        LinkRewirer row = grid(7, 1);
        row.link(0, 2);
        due("exchange(2, 3)", row.exchange(2, 3), 0);
        due("node(2, 0)", row.node(2, 0), 2);
        due("node(3, 0)", row.node(3, 0), 3);
        due("told(4)", row.told(4), 2);
        due("way(1, 2)", row.way(1, 2), 1);
    }

    void promise8_sumEqual() {
        LinkRewirer row = grid(7, 1);
        row.link(3, 1);
        due("exchange(1, 5)", row.exchange(1, 5), 1);
        due("node(1, 0)", row.node(1, 0), 5);
        due("node(5, 0)", row.node(5, 0), 1);
        due("told(4)", row.told(4), 2);
    }

    void promise8_sumLessByOne() {
        LinkRewirer row = grid(7, 1);
        row.link(0, 3);
        due("exchange(2, 3)", row.exchange(2, 3), 1);
        due("told(4)", row.told(4), 2);
    }

    void promise8_sumOfAllLinksCounts() {
        LinkRewirer row = grid(7, 1);
        row.link(0, 2);
        row.link(6, 2);
        due("exchange(2, 5), one longer and one shorter", row.exchange(2, 5), 1);
        due("told(4)", row.told(4), 6);
    }

    void promise8_oneShorterTwoLonger() {
        LinkRewirer row = grid(7, 1);
        row.set(0, 3);
        row.link(2, 6);
        row.link(2, 0);
        row.link(2, 1);
        due("exchange(2, 3)", row.exchange(2, 3), 0);
        due("told(4)", row.told(4), 7);
    }

    void promise8_linksOfBothNodesCount() {
        LinkRewirer row = grid(7, 1);
        row.link(0, 6);
        row.link(6, 0);
        due("exchange(0, 6)", row.exchange(0, 6), 1);
        due("told(4)", row.told(4), 12);
        due("exchange(0, 5)", row.exchange(0, 5), 1);
        due("told(4) then", row.told(4), 10);
        due("exchange(5, 0)", row.exchange(5, 0), 0);
    }

    void promise8_linksStayWithTheirNodes() {
        LinkRewirer row = grid(7, 1);
        row.link(0, 6);
        row.exchange(0, 5);
        duesTargets(row, 0, 6);
        duesTargets(row, 5);
        due("way(0, 6)", row.way(0, 6), 1);
        due("distance(0, 6)", row.distance(0, 6), 1);
    }

    void promise8_isAChangeInBothCases() {
        x.link(0, 1);
        dueChange("exchange(1, 15)", x, y -> y.exchange(1, 15), 0);
        dueChange("exchange(0, 1)", x, y -> y.exchange(0, 1), 1);
    }

    // Promise 9: "BAD if there is no such node; STATE if it is absent, or no other node is present"

    void promise9_nodeTooSmall() {
        dueBadBelow(0, "leave(v)", v -> x.leave(v));
    }

    void promise9_nodeTooLarge() {
        dueBadAbove(15, "leave(v)", v -> x.leave(v));
    }

    void promise9_isAbsent() {
        x.leave(5);
        due("leave(5)", x.leave(5), STATE);
    }

    void promise9_noOtherIsPresent() {
        LinkRewirer row = grid(3, 1);
        due("leave(0)", row.leave(0), 0);
        due("leave(2)", row.leave(2), 0);
        due("leave(1), the last one", row.leave(1), STATE);
        due("node(1, 1)", row.node(1, 1), 1);
        due("told(2)", row.told(2), 1);
    }

    void promise9_theOnlyNode() {
        due("leave(0)", grid(1, 1).leave(0), STATE);
    }

    void promise9_absentAndOnlyOneIsPresent() {
        LinkRewirer pair = grid(2, 1);
        pair.leave(0);
        due("leave(0)", pair.leave(0), STATE);
    }

    void promise9_oneOfTwo() {
        LinkRewirer pair = grid(2, 1);
        due("leave(1)", pair.leave(1), 0);
        due("told(2)", pair.told(2), 1);
    }

    // "all long links from and to it are removed" and "Returns how many long links are removed"

    void promise9_noLinksToRemove() {
        x.link(0, 15);
        due("leave(5)", x.leave(5), 0);
        due("told(3)", x.told(3), 1);
    }

    void promise9_linksFromAndTo() {
        x.set(0, 3);
        x.link(5, 0);
        x.link(5, 10);
        x.link(0, 5);
        x.link(0, 6);
        x.link(15, 5);
        due("leave(5)", x.leave(5), 4);
        due("told(3)", x.told(3), 1);
        duesTargets(x, 0, 6);
        duesTargets(x, 15);
        duesTargets(x, 5);
    }

    void promise9_linksBothWays() {
        LinkRewirer pair = grid(2, 1);
        pair.link(0, 1);
        pair.link(1, 0);
        due("leave(0)", pair.leave(0), 2);
        due("told(3)", pair.told(3), 0);
    }

    void promise9_linksLeftKeepTheirOrder() {
        x.set(0, 3);
        x.link(0, 6);
        x.link(0, 5);
        x.link(0, 7);
        x.leave(5);
        duesTargets(x, 0, 6, 7);
        x.leave(6);
        duesTargets(x, 0, 7);
    }

    void promise9_linksFromAllNodes() {
        LinkRewirer large = grid(7, 7);
        for (int u = 0; u < 48; u++) {
            large.link(u, 48);
        }
        due("leave(48)", large.leave(48), 48);
        due("told(3)", large.told(3), 0);
    }

    // Promise 10: "Lets a node return to its place, without long links.", "Returns how many present neighbors it
    // has; BAD if there is no such node; STATE if it is present."

    void promise10_nodeTooSmall() {
        dueBadBelow(0, "enter(v)", v -> x.enter(v));
    }

    void promise10_nodeTooLarge() {
        dueBadAbove(15, "enter(v)", v -> x.enter(v));
    }

    void promise10_isPresent() {
        for (int u = 0; u < 16; u++) {
            due("enter(" + u + ")", x.enter(u), STATE);
        }
    }

    void promise10_enteredAlready() {
        x.leave(5);
        due("enter(5)", x.enter(5), 4);
        due("enter(5) again", x.enter(5), STATE);
    }

    void promise10_zeroToFourNeighbors() {
        int[] around = {1, 4, 6, 9};
        for (int absent = 0; absent <= 4; absent++) {
            x.leave(5);
            due("enter(5) with " + absent + " neighbors absent", x.enter(5), 4 - absent);
            if (absent < 4) {
                x.leave(around[absent]);
            }
        }
    }

    void promise10_withoutLongLinks() {
        x.link(5, 15);
        x.link(0, 5);
        x.leave(5);
        x.enter(5);
        duesNode(x, 5, 5, 1, 4, 0, 0, 15, 4);
        due("told(3)", x.told(3), 0);
    }

    void promise10_atItsPlace() {
        x.exchange(0, 5);
        x.leave(0);
        x.leave(5);
        due("enter(0)", x.enter(0), 4);
        due("enter(5)", x.enter(5), 2);
        due("node(0, 0)", x.node(0, 0), 5);
    }

    void promise10_isAChange() {
        x.leave(5);
        dueChange("enter(5)", x, y -> y.enter(5), 4);
    }

    // Promise 11: "0 the limit; 1 the rule; 2 the chance; 3 the seed (0 or more)", "Returns the previous value; BAD
    // if an argument is out of range."

    void promise11_whatTooSmall() {
        dueBadBelow(0, "set(v, 1)", v -> x.set(v, 1));
    }

    void promise11_whatTooLarge() {
        dueBadAbove(3, "set(v, 1)", v -> x.set(v, 1));
    }

    void promise11_limitTooSmall() {
        dueBadBelow(1, "set(0, v)", v -> x.set(0, v));
    }

    void promise11_limitTooLarge() {
        dueBadAbove(3, "set(0, v)", v -> x.set(0, v));
    }

    void promise11_limitOneToThree() {
        dueSet(0, 5, 2, 1, 2, 3);
    }

    void promise11_ruleTooSmall() {
        dueBadBelow(0, "set(1, v)", v -> x.set(1, v));
    }

    void promise11_ruleTooLarge() {
        dueBadAbove(3, "set(1, v)", v -> x.set(1, v));
    }

    void promise11_ruleZeroToThree() {
        dueSet(1, 6, 0, 3, 2, 1, 0);
    }

    void promise11_chanceTooSmall() {
        dueBadBelow(1, "set(2, v)", v -> x.set(2, v));
    }

    void promise11_chanceTooLarge() {
        dueBadAbove(9, "set(2, v)", v -> x.set(2, v));
    }

    void promise11_chanceOneToNine() {
        dueSet(2, 7, 3, 1, 2, 3, 4, 5, 6, 7, 8, 9);
    }

    void promise11_seedTooSmall() {
        dueBadBelow(0, "set(3, v)", v -> x.set(3, v));
    }

    void promise11_seedZeroOrMore() {
        dueSet(3, 8, 1, 0, 1, 65536, HIGH - 1, HIGH);
    }

    /** Each value is told then, and answered by the next call as the previous one. */
    private void dueSet(int what, int told, int first, int... values) {
        int before = first;
        for (int v : values) {
            due("set(" + what + ", " + v + ")", x.set(what, v), before);
            due("told(" + told + ")", x.told(told), v);
            before = v;
        }
    }

    // Promise 12: "Returns how many changes can still be undone; STATE if there is none."

    void promise12_noneAtFirst() {
        due("undo()", x.undo(), STATE);
    }

    void promise12_noneAfterTheLast() {
        x.link(0, 5);
        due("undo()", x.undo(), 0);
        due("undo() again", x.undo(), STATE);
        due("told(3)", x.told(3), 0);
    }

    void promise12_sevenAfterTheFirstOfEight() {
        for (int i = 0; i < 9; i++) {
            x.link(i, 15);
        }
        due("undo()", x.undo(), 7);
        due("undo() again", x.undo(), 6);
        due("told(9)", x.told(9), 6);
        due("told(3)", x.told(3), 7);
    }

    void promise12_nothingIsMadeAgain() {
        x.link(0, 5);
        x.undo();
        due("undo()", x.undo(), STATE);
        due("told(3)", x.told(3), 0);
    }

    void promise12_overASmallerGrid() {
        LinkRewirer large = grid(7, 7);
        large.set(0, 3);
        large.link(48, 0);
        large.begin(1, 1);
        due("undo()", large.undo(), 3);
        duesTold(large, 49, 7, 49, 1, 12, 3);
        duesTargets(large, 48, 0);
    }
}
