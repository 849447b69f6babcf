import java.util.function.IntUnaryOperator;

/** The boundary cases that the document names in promises 13 to 23. */
public final class AnswersCasesTest extends Cases {
    public static void main(String[] args) throws IllegalAccessException {
        run(AnswersCasesTest::new);
    }

    /** Checks that a call is BAD for numbers that are no nodes of the 16. */
    private void dueBadNodes(String call, IntUnaryOperator answer) {
        dueBadBelow(0, call, answer);
        dueBadAbove(15, call, answer);
    }

    // Promise 13: "BAD if what is out of range"

    void promise13_whatTooSmall() {
        dueBadBelow(0, "told(v)", x::told);
    }

    void promise13_whatTooLarge() {
        dueBadAbove(9, "told(v)", x::told);
    }

    void promise13_leastNumbers() {
        LinkRewirer pair = grid(2, 1);
        pair.leave(1);
        duesTold(pair, 2, 2, 1, 0, 0, 2, 0, 3, 1, 2);
        pair.set(0, 1);
        pair.set(2, 1);
        pair.set(3, 0);
        duesTold(pair, 2, 2, 1, 0, 0, 1, 0, 1, 0, 5);
        duesTold(grid(1, 1), 1, 1, 1, 0, 0, 2, 0, 3, 1, 1);
    }

    void promise13_greatestNumbers() {
        LinkRewirer large = grid(7, 7);
        large.set(0, 3);
        large.set(1, 3);
        large.set(2, 9);
        large.set(3, HIGH);
        for (int u = 0; u < 49; u++) {
            for (int k = 1; k <= 3; k++) {
                large.link(u, (u + 7 * k) % 49);
            }
        }
        // in each column a link over k rows, or back over 7 - k where these rows end
        duesTold(large, 49, 7, 49, 147, 7 * (6 * 1 + 6 + 5 * 2 + 2 * 5 + 4 * 3 + 3 * 4), 3, 3, 9, HIGH, 8);
    }

    void promise13_numberOfUndoable() {
        for (int i = 0; i <= 10; i++) {
            due("told(9) after " + i + " changes", x.told(9), Math.min(i, 8));
            x.set(3, i);
        }
    }

    void promise13_lengthsByPlaces() {
        x.link(0, 1);
        x.link(2, 15);
        due("told(4)", x.told(4), 1 + 4);
        x.exchange(15, 3);
        due("told(4), exchanged", x.told(4), 1 + 1);
    }

    // Promise 14: "BAD if there is no such node or what is out of range"

    void promise14_noSuchNode() {
        for (int what = 0; what <= 6; what++) {
            int w = what;
            dueBadNodes("node(v, " + w + ")", v -> x.node(v, w));
        }
    }

    void promise14_whatTooSmall() {
        dueBadBelow(0, "node(0, v)", v -> x.node(0, v));
    }

    void promise14_whatTooLarge() {
        dueBadAbove(6, "node(0, v)", v -> x.node(0, v));
    }

    void promise14_whatOutOfRangeOfAbsentNode() {
        x.leave(0);
        due("node(0, -1)", x.node(0, -1), BAD);
        due("node(0, 7)", x.node(0, 7), BAD);
    }

    // "For an absent node 2 to 6 are 0."

    void promise14_absentNode() {
        x.link(5, 15);
        x.link(0, 5);
        duesNode(x, 5, 5, 1, 5, 1, 1, 15, 3);
        x.leave(5);
        duesNode(x, 5, 5, 0, 0, 0, 0, 0, 0);
    }

    void promise14_absentNodeKeepsItsPlaceAlone() {
        x.exchange(5, 15);
        x.leave(5);
        duesNode(x, 5, 15, 0, 0, 0, 0, 0, 0);
    }

    // "whether it is present (1 or 0)"

    void promise14_presence() {
        due("node(3, 1)", x.node(3, 1), 1);
        x.leave(3);
        due("node(3, 1), absent", x.node(3, 1), 0);
        due("node(2, 1)", x.node(2, 1), 1);
        x.enter(3);
        due("node(3, 1), returned", x.node(3, 1), 1);
    }

    void promise14_mostContacts() {
        LinkRewirer large = grid(7, 7);
        large.set(0, 3);
        large.link(24, 0);
        large.link(24, 48);
        large.link(24, 6);
        duesNode(large, 24, 24, 1, 7, 3, 0, 48, 6);
    }

    void promise14_mostLinksToIt() {
        LinkRewirer large = grid(7, 7);
        for (int u = 1; u < 49; u++) {
            large.link(u, 0);
        }
        duesNode(large, 0, 0, 1, 2, 0, 48, 48, 12);
        duesNode(large, 48, 48, 1, 3, 1, 0, 48, 6);
    }

    // "the number of nodes to which there is a path from it, itself not included"

    void promise14_itselfIsNotIncluded() {
        due("node(0, 5), alone on the grid", grid(1, 1).node(0, 5), 0);
        due("node(0, 5), two nodes", grid(2, 1).node(0, 5), 1);
        due("node(24, 5), all nodes", grid(7, 7).node(24, 5), 48);
    }

    void promise14_pathsFromItNotToIt() {
        LinkRewirer row = grid(3, 1);
        row.leave(1);
        row.link(0, 2);
        due("node(0, 5)", row.node(0, 5), 1);
        due("node(2, 5)", row.node(2, 5), 0);
        due("node(0, 6)", row.node(0, 6), 1);
        due("node(2, 6)", row.node(2, 6), 0);
    }

    // "the greatest way from it to one of them (0 if there are none)"

    void promise14_greatestWayIfThereAreNone() {
        x.leave(1);
        x.leave(4);
        duesNode(x, 0, 0, 1, 0, 0, 0, 0, 0);
        due("node(0, 6) of the only node", grid(1, 1).node(0, 6), 0);
    }

    void promise14_greatestWayAroundWalls() {
        LinkRewirer maze = maze();
        due("node(0, 6)", maze.node(0, 6), 30);
        due("node(0, 5)", maze.node(0, 5), 30);
        due("node(6, 6)", maze.node(6, 6), 30);
    }

    /** Seven columns, of which three are walls with one gap each: the only path leads through all 31 nodes. */
    private static LinkRewirer maze() {
        LinkRewirer maze = grid(7, 7);
        for (int row = 0; row < 6; row++) {
            maze.leave(7 * row + 1);
            maze.leave(7 * (row + 1) + 3);
            maze.leave(7 * row + 5);
        }
        return maze;
    }

    void promise14_greatestWayByLinksBetweenStairs() {
        LinkRewirer stairs = stairs();
        due("node(1, 5)", stairs.node(1, 5), 32);
        due("node(1, 6)", stairs.node(1, 6), 32);
        due("node(48, 5)", stairs.node(48, 5), 0);
        due("node(48, 6)", stairs.node(48, 6), 0);
    }

    /**
     * Five stairs that are no neighbors of each other, of 3, 9, 13, 7 and 1 nodes, and a long link from the end of
     * each to the begin of the next one: the only path from node 1 to node 48 leads through all 33 nodes.
     */
    private static LinkRewirer stairs() {
        LinkRewirer stairs = grid(7, 7);
        for (int u = 0; u < 49; u++) {
            if ((u % 7 + u / 7) % 3 == 2) {
                stairs.leave(u);
            }
        }
        stairs.link(7, 28);
        stairs.link(4, 6);
        stairs.link(42, 45);
        stairs.link(27, 48);
        return stairs;
    }

    // Promise 15: "k: the index of the link, 0 for the oldest one", "NONE if it has not so many; BAD if there is no
    // such node or k is negative"

    void promise15_noSuchNode() {
        dueBadNodes("target(v, 0)", v -> x.target(v, 0));
    }

    void promise15_indexIsNegative() {
        x.link(5, 0);
        dueBadBelow(0, "target(5, v)", v -> x.target(5, v));
    }

    void promise15_notSoMany() {
        x.link(5, 0);
        for (int k : new int[] {1, 2, 3, 4, 1000, HIGH}) {
            due("target(5, " + k + ")", x.target(5, k), NONE);
        }
        due("target(4, 0), none at all", x.target(4, 0), NONE);
    }

    void promise15_notTheLinksOfTheNextNode() {
        x.set(0, 3);
        x.link(6, 0);
        x.link(6, 1);
        due("target(5, 3)", x.target(5, 3), NONE);
        due("target(5, 4)", x.target(5, 4), NONE);
    }

    void promise15_absentNodeHasNone() {
        x.link(5, 0);
        x.leave(5);
        due("target(5, 0)", x.target(5, 0), NONE);
    }

    void promise15_removedLinksAreNoneAnyMore() {
        x.link(5, 0);
        x.link(5, 1);
        x.unlink(5, 0);
        duesTargets(x, 5, 1);
        x.leave(1);
        duesTargets(x, 5);
    }

    void promise15_oldestIsZero() {
        x.set(0, 3);
        x.link(5, 9);
        x.link(5, 1);
        x.link(5, 15);
        duesTargets(x, 5, 9, 1, 15);
    }

    // Promise 16: "v: a node, possibly the same", "BAD if there is no such node"

    void promise16_noSuchNode() {
        dueBadNodes("distance(v, 5)", v -> x.distance(v, 5));
        dueBadNodes("distance(5, v)", v -> x.distance(5, v));
        dueBadNodes("distance(v, v)", v -> x.distance(v, v));
    }

    void promise16_possiblyTheSame() {
        for (int u = 0; u < 16; u++) {
            due("distance(" + u + ", " + u + ")", x.distance(u, u), 0);
        }
    }

    void promise16_greatest() {
        LinkRewirer large = grid(7, 7);
        due("distance(0, 48)", large.distance(0, 48), 12);
        due("distance(48, 0)", large.distance(48, 0), 12);
        due("distance(6, 42)", large.distance(6, 42), 12);
        due("distance(42, 6)", large.distance(42, 6), 12);
    }

    void promise16_absentNodesHaveDistances() {
        x.leave(0);
        x.leave(15);
        due("distance(0, 15)", x.distance(0, 15), 6);
        due("distance(0, 1)", x.distance(0, 1), 1);
        due("distance(0, 0)", x.distance(0, 0), 0);
    }

    void promise16_byPlacesAndNotByLinks() {
        x.link(0, 15);
        due("distance(0, 15)", x.distance(0, 15), 6);
        x.exchange(15, 1);
        due("distance(0, 15), exchanged", x.distance(0, 15), 1);
    }

    // Promise 17: "the index in the route, 0 for s; or -1 for the number of steps, or -2 for whether t is reached
    // (1 or 0)", "NONE if the route has not so many nodes; BAD if there is no such node, or k is less than -2; STATE
    // if s or t is absent"

    void promise17_noSuchNode() {
        for (int k : new int[] {-2, -1, 0, 99}) {
            dueBadNodes("route(v, 5, " + k + ")", v -> x.route(v, 5, k));
            dueBadNodes("route(5, v, " + k + ")", v -> x.route(5, v, k));
        }
    }

    void promise17_indexTooSmall() {
        dueBadBelow(-2, "route(0, 15, v)", v -> x.route(0, 15, v));
    }

    void promise17_notSoManyNodes() {
        for (int k : new int[] {7, 8, 48, 49, 50, 1000, HIGH}) {
            due("route(0, 15, " + k + ")", x.route(0, 15, k), NONE);
        }
        due("route(0, 15, 6)", x.route(0, 15, 6), 15);
    }

    void promise17_beginIsAbsent() {
        x.leave(5);
        for (int k : new int[] {-2, -1, 0, 99}) {
            due("route(5, 0, " + k + ")", x.route(5, 0, k), STATE);
        }
    }

    void promise17_endIsAbsent() {
        x.leave(5);
        for (int k : new int[] {-2, -1, 0, 99}) {
            due("route(0, 5, " + k + ")", x.route(0, 5, k), STATE);
        }
    }

    void promise17_bothAreTheSameAbsentNode() {
        x.leave(5);
        due("route(5, 5, 0)", x.route(5, 5, 0), STATE);
    }

    void promise17_fromANodeToItself() {
        duesRoute(x, 15, 15, 15);
    }

    void promise17_firstIsTheBegin() {
        for (int t = 0; t < 16; t++) {
            due("route(5, " + t + ", 0)", x.route(5, t, 0), 5);
        }
    }

    void promise17_notReached() {
        x.leave(8);
        due("route(0, 12, -2)", x.route(0, 12, -2), 0);
        due("route(0, 12, -1)", x.route(0, 12, -1), 1);
        due("route(0, 12, 1)", x.route(0, 12, 1), 4);
        due("route(0, 12, 2)", x.route(0, 12, 2), NONE);
    }

    void promise17_shorterAfterALongerOne() {
        due("route(0, 15, 6)", x.route(0, 15, 6), 15);
        duesRoute(x, 0, 1, 0, 1);
    }

    // "nothing is rewired"

    void promise17_nothingIsRewired() {
        for (int rule = 0; rule <= 3; rule++) {
            x.set(1, rule);
            x.set(2, 1);
            String before = seen(x);
            due("route(0, 15, -1) with rule " + rule, x.route(0, 15, -1), 6);
            dueText("the network after it", seen(x), before);
            due("told(9) after it", x.told(9), 2 * rule + 2);
        }
    }

    // Promise 18: "t: the other node, possibly the same", "NONE if there is no path; BAD if there is no such node;
    // STATE if one of them is absent"

    void promise18_noSuchNode() {
        dueBadNodes("way(v, 5)", v -> x.way(v, 5));
        dueBadNodes("way(5, v)", v -> x.way(5, v));
    }

    void promise18_possiblyTheSame() {
        for (int u = 0; u < 16; u++) {
            due("way(" + u + ", " + u + ")", x.way(u, u), 0);
        }
    }

    void promise18_beginIsAbsent() {
        x.leave(5);
        due("way(5, 0)", x.way(5, 0), STATE);
    }

    void promise18_endIsAbsent() {
        x.leave(5);
        due("way(0, 5)", x.way(0, 5), STATE);
    }

    void promise18_bothAreTheSameAbsentNode() {
        x.leave(5);
        due("way(5, 5)", x.way(5, 5), STATE);
    }

    void promise18_noPath() {
        x.leave(1);
        x.leave(4);
        due("way(0, 15)", x.way(0, 15), NONE);
        due("way(15, 0)", x.way(15, 0), NONE);
        due("way(0, 0)", x.way(0, 0), 0);
    }

    void promise18_noPathBack() {
        x.leave(1);
        x.leave(4);
        x.link(0, 15);
        due("way(0, 15)", x.way(0, 15), 1);
        due("way(15, 0)", x.way(15, 0), NONE);
    }

    void promise18_pathWhereTheLookupFails() {
        x.leave(8);
        due("way(0, 12)", x.way(0, 12), 5);
        due("route(0, 12, -2)", x.route(0, 12, -2), 0);
    }

    void promise18_greatestWay() {
        due("way(0, 48)", grid(7, 7).way(0, 48), 12);
        due("way(0, 6) around walls", maze().way(0, 6), 30);
        due("way(1, 48) over all stairs", stairs().way(1, 48), 32);
    }

    // Promise 19: "1 if both are the same, 0 if there is none"

    void promise19_noSuchNode() {
        dueBadNodes("paths(v, 5)", v -> (int) x.paths(v, 5));
        dueBadNodes("paths(5, v)", v -> (int) x.paths(5, v));
    }

    void promise19_bothTheSame() {
        for (int u = 0; u < 16; u++) {
            due("paths(" + u + ", " + u + ")", x.paths(u, u), 1);
        }
        due("paths(0, 0), alone on the grid", grid(1, 1).paths(0, 0), 1);
    }

    void promise19_none() {
        due("paths(0, 15) before", x.paths(0, 15), 20);
        x.leave(1);
        x.leave(4);
        due("paths(0, 15)", x.paths(0, 15), 0);
        due("paths(15, 0)", x.paths(15, 0), 0);
        due("paths(0, 0)", x.paths(0, 0), 1);
    }

    void promise19_beginIsAbsent() {
        x.leave(5);
        due("paths(5, 0)", x.paths(5, 0), STATE);
    }

    void promise19_endIsAbsent() {
        x.leave(5);
        due("paths(0, 5)", x.paths(0, 5), STATE);
    }

    void promise19_bothAreTheSameAbsentNode() {
        x.leave(5);
        due("paths(5, 5)", x.paths(5, 5), STATE);
    }

    void promise19_onlyTheLeastNumberOfSteps() {
        x.link(0, 15);
        due("paths(0, 15)", x.paths(0, 15), 1);
        due("paths(0, 14)", x.paths(0, 14), 1);
        due("paths(15, 0)", x.paths(15, 0), 20);
    }

    void promise19_mostOnTheGrid() {
        due("paths(0, 48)", grid(7, 7).paths(0, 48), 924);
        due("paths(42, 6)", grid(7, 7).paths(42, 6), 924);
    }

    /** Without its odd nodes no node has a neighbor; the even ones link in layers
     * of three, each to all of the next layer. */
    void promise19_moreThanOnTheGrid() {
        LinkRewirer layers = grid(7, 7);
        layers.set(0, 3);
        for (int u = 1; u < 49; u += 2) {
            layers.leave(u);
        }
        for (int i = 0; i < 3; i++) {
            layers.link(0, 2 + 2 * i);
            layers.link(38 + 2 * i, 48);
            for (int u = 2; u < 38; u++) {
                if (u % 2 == 0) {
                    int layer = (u - 2) / 6;
                    layers.link(u, 2 + 6 * (layer + 1) + 2 * i);
                }
            }
        }
        due("told(3)", layers.told(3), 3 + 6 * 9 + 3);
        due("way(0, 48)", layers.way(0, 48), 8);
        due("paths(0, 48)", layers.paths(0, 48), 3 * 3 * 3 * 3 * 3 * 3 * 3);
        due("paths(2, 48)", layers.paths(2, 48), 3 * 3 * 3 * 3 * 3 * 3);
        due("paths(48, 0)", layers.paths(48, 0), 0);
    }

    // Promise 20: "BAD if what is out of range" and "(0 if there are none)"

    void promise20_whatTooSmall() {
        dueBadBelow(0, "measure(v)", x::measure);
    }

    void promise20_whatTooLarge() {
        dueBadAbove(7, "measure(v)", x::measure);
    }

    void promise20_onlyOneNode() {
        duesMeasures(grid(1, 1), 0, 0, 0, 0, 0, 0, 0, 0);
    }

    void promise20_noPairWithAPath() {
        LinkRewirer row = grid(3, 1);
        due("measure(2) before", row.measure(2), 2);
        row.leave(1);
        duesMeasures(row, 2, 0, 0, 0, 0, 0, 0, 0);
    }

    void promise20_oneWay() {
        LinkRewirer row = grid(3, 1);
        row.leave(1);
        row.link(0, 2);
        duesMeasures(row, 2, 1, 1, 1, 1, 1, 1, 1);
    }

    void promise20_pathsButFailingLookups() {
        LinkRewirer ring = grid(3, 3);
        ring.leave(1);
        // lookups of 2 from 0, 3 and 6 fail at 0, those of 0 from 2, 5 and 8 fail at 2
        duesMeasures(ring, 56, 56, 4, 118, 50, 4, 96, 50);
    }

    void promise20_lookupsLongerThanTheWay() {
        LinkRewirer row = grid(7, 1);
        row.link(1, 6);
        // only the way from 2 to 6 is less: it goes back to 1 first
        due("measure(4)", row.measure(4), 42);
        due("measure(7)", row.measure(7), 41);
        due("measure(5)", row.measure(5), 6);
    }

    void promise20_largestGrid() {
        duesMeasures(grid(7, 7), 2352, 2352, 12, 10976, 2352, 12, 10976, 2352);
    }

    void promise20_diameterAroundWalls() {
        LinkRewirer maze = maze();
        due("measure(2)", maze.measure(2), 30);
        due("measure(0)", maze.measure(0), 31 * 30);
        due("measure(1)", maze.measure(1), 31 * 30);
        due("measure(3)", maze.measure(3), 31 * 30 * 32 / 3);
    }

    void promise20_waysOverStairs() {
        LinkRewirer stairs = stairs();
        due("measure(0)", stairs.measure(0), 33 * 32);
        // forward all pairs, backward those on the same stairs
        due("measure(1)", stairs.measure(1), 33 * 32 / 2 + 3 + 36 + 78 + 21);
        due("measure(2)", stairs.measure(2), 32);
        due("measure(3)", stairs.measure(3), 33 * 32 * 34 / 6 + 4 + 120 + 364 + 56);
    }

    // Promise 21: "Returns the mean, 0.0 if there are no such lookups."

    void promise21_onlyOneNode() {
        dueFloat("mean()", grid(1, 1).mean(), 0.0f);
    }

    void promise21_noLookupReachesItsEnd() {
        LinkRewirer row = grid(3, 1);
        row.leave(1);
        dueFloat("mean()", row.mean(), 0.0f);
    }

    void promise21_oneLookupReachesItsEnd() {
        LinkRewirer row = grid(3, 1);
        row.leave(1);
        row.link(0, 2);
        dueFloat("mean()", row.mean(), 1.0f);
    }

    void promise21_failingLookupsAreLeftOut() {
        LinkRewirer ring = grid(3, 3);
        ring.leave(1);
        dueFloat("mean()", ring.mean(), 96.0f / 50.0f);
    }

    void promise21_isNotRounded() {
        dueFloat("mean() of 16 nodes", x.mean(), 640.0f / 240.0f);
        dueFloat("mean() of 49 nodes", grid(7, 7).mean(), 10976.0f / 2352.0f);
    }

    // Promise 22: "i: the image, 0 or 1", "replacing what it kept before", "BAD if there is no such image"

    void promise22_imageTooSmall() {
        dueBadBelow(0, "keep(v)", x::keep);
    }

    void promise22_imageTooLarge() {
        dueBadAbove(1, "keep(v)", x::keep);
    }

    void promise22_bothImages() {
        due("keep(0)", x.keep(0), 0);
        x.link(0, 5);
        due("keep(1)", x.keep(1), 1);
        due("back(0)", x.back(0), 0);
        due("back(1)", x.back(1), 1);
    }

    void promise22_theOtherImageKeepsNothing() {
        x.keep(1);
        due("back(0)", x.back(0), STATE);
        LinkRewirer other = new LinkRewirer();
        other.keep(0);
        due("back(1)", other.back(1), STATE);
    }

    void promise22_replacesWhatItKept() {
        x.link(0, 5);
        x.keep(0);
        x.begin(2, 2);
        due("keep(0)", x.keep(0), 0);
        x.begin(7, 7);
        due("back(0)", x.back(0), 0);
        due("told(0)", x.told(0), 4);
    }

    void promise22_noLinksToCount() {
        due("keep(0)", x.keep(0), 0);
        due("back(0)", x.back(0), 0);
    }

    void promise22_isNoChange() {
        String before = seen(x);
        x.keep(0);
        dueText("the network", seen(x), before);
        due("told(9)", x.told(9), 0);
        due("undo()", x.undo(), STATE);
    }

    // Promise 23: "the image stays", "BAD if there is no such image; STATE if it keeps nothing"

    void promise23_imageTooSmall() {
        x.keep(0);
        x.keep(1);
        dueBadBelow(0, "back(v)", x::back);
    }

    void promise23_imageTooLarge() {
        x.keep(0);
        x.keep(1);
        dueBadAbove(1, "back(v)", x::back);
    }

    void promise23_keepsNothing() {
        due("back(0)", x.back(0), STATE);
        due("back(1)", x.back(1), STATE);
        x.begin(2, 2);
        due("back(0) after begin", x.back(0), STATE);
        due("told(9)", x.told(9), 1);
    }

    void promise23_imageStays() {
        x.link(0, 5);
        x.keep(0);
        x.link(0, 6);
        for (int i = 0; i < 3; i++) {
            due("back(0)", x.back(0), 1);
            duesTargets(x, 0, 5);
            x.link(0, 7);
            x.exchange(1, 2);
            x.leave(3);
        }
    }

    void promise23_withTheSettings() {
        x.set(0, 3);
        x.set(1, 1);
        x.set(2, 5);
        x.set(3, 12);
        x.keep(1);
        x.set(0, 1);
        x.set(1, 2);
        x.set(2, 6);
        x.set(3, 13);
        x.back(1);
        duesTold(x, 16, 4, 16, 0, 0, 3, 1, 5, 12, 8);
    }

    void promise23_withTheNetwork() {
        LinkRewirer wide = grid(5, 2);
        wide.link(0, 9);
        wide.exchange(1, 2);
        wide.leave(4);
        String kept = seen(wide);
        wide.keep(0);
        wide.begin(7, 7);
        due("back(0)", wide.back(0), 1);
        dueText("the network", seen(wide), kept);
        duesRoute(wide, 0, 3, 0, 2, 1, 3);
    }

    void promise23_isAChange() {
        x.link(0, 5);
        x.keep(0);
        x.begin(3, 3);
        x.set(3, 7);
        dueChange("back(0)", x, y -> y.back(0), 1);
    }

    void promise23_recordedInAFullHistory() {
        x.keep(0);
        for (int i = 1; i <= 8; i++) {
            x.set(3, i);
        }
        due("back(0)", x.back(0), 0);
        due("told(9)", x.told(9), 8);
        due("undo()", x.undo(), 7);
        due("told(8)", x.told(8), 8);
    }
}
