/**
 * The boundary cases that the document names outside the promises: the number of calls, and the
 * sections CONVENTIONS, NETWORKS, LOOKUPS, RANDOM NUMBERS and MEASURES.
 */
public final class DescriptionCasesTest extends Cases {
    public static void main(String[] args) throws IllegalAccessException {
        run(DescriptionCasesTest::new);
    }

    // "An object is used for at most 512 calls after it has been made"

    void calls_the512thAnswers() {
        x.begin(7, 7);
        for (int call = 2; call <= 511; call++) {
            due("seekSome(20), the call " + call, x.seekSome(20), 20);
        }
        due("told(8), the call 512", x.told(8), seedAfter(1, 510 * 40));
    }

    void calls_512Changes() {
        for (int call = 1; call <= 511; call++) {
            due("set(3, ..), the call " + call, x.set(3, call + 1), call);
        }
        due("undo(), the call 512", x.undo(), 7);
    }

    /** What they answer is free; that they throw nothing is asked by LANGUAGE.md, rule 7. */
    void calls_laterOnesThrowNothing() {
        long answers = 0;
        for (int i = 0; i < 2000; i++) {
            int u = i % 16;
            answers += x.link(u, 15 - u) + x.drawLink(u, i % 3) + x.seek(u, 3) + x.seekSome(2) + x.exchange(u, 7);
            answers += x.leave(u) + x.enter(u) + x.keep(i % 2) + x.back(i % 2) + x.undo() + x.unlink(u, 0);
        }
        due("there are answers", answers == 0 ? 0 : 1, 1);
    }

    // "If several of them apply to one call, the first one in this list is returned."

    void conventions_badBeforeStateInLink() {
        x.leave(3);
        due("link(3, 16)", x.link(3, 16), BAD);
        due("link(16, 3)", x.link(16, 3), BAD);
        due("link(3, 3)", x.link(3, 3), BAD);
    }

    void conventions_badBeforeStateInDrawLink() {
        x.leave(3);
        due("drawLink(3, 3)", x.drawLink(3, 3), BAD);
        due("drawLink(3, -1)", x.drawLink(3, -1), BAD);
    }

    void conventions_badBeforeStateInSeek() {
        x.leave(3);
        due("seek(3, 16)", x.seek(3, 16), BAD);
        due("seek(16, 3)", x.seek(16, 3), BAD);
    }

    void conventions_badBeforeStateInExchange() {
        x.leave(3);
        due("exchange(3, 16)", x.exchange(3, 16), BAD);
        due("exchange(16, 3)", x.exchange(16, 3), BAD);
        due("exchange(3, 3)", x.exchange(3, 3), BAD);
    }

    void conventions_badBeforeStateInLeave() {
        LinkRewirer single = grid(1, 1);
        due("leave(1)", single.leave(1), BAD);
        due("leave(-1)", single.leave(-1), BAD);
    }

    void conventions_badBeforeStateInRoute() {
        x.leave(3);
        due("route(3, 16, 0)", x.route(3, 16, 0), BAD);
        due("route(16, 3, 0)", x.route(16, 3, 0), BAD);
        due("route(3, 0, -3)", x.route(3, 0, -3), BAD);
        due("route(0, 3, -3)", x.route(0, 3, -3), BAD);
    }

    void conventions_badBeforeStateInWay() {
        x.leave(3);
        due("way(3, 16)", x.way(3, 16), BAD);
        due("way(16, 3)", x.way(16, 3), BAD);
    }

    void conventions_badBeforeStateInPaths() {
        x.leave(3);
        due("paths(3, 16)", x.paths(3, 16), BAD);
        due("paths(16, 3)", x.paths(16, 3), BAD);
    }

    void conventions_badBeforeStateInBack() {
        due("back(2), nothing kept", x.back(2), BAD);
        due("back(-1), nothing kept", x.back(-1), BAD);
    }

    // "NONE (-9) means that there is no such value; it is returned only if no error code applies."

    void conventions_errorBeforeNoneInDrawLink() {
        LinkRewirer pair = grid(2, 1);
        pair.leave(1);
        due("drawLink(0, 3), no possible target", pair.drawLink(0, 3), BAD);
        due("drawLink(2, 0), no possible target", pair.drawLink(2, 0), BAD);
        due("drawLink(1, 0), no possible target", pair.drawLink(1, 0), STATE);
        due("drawLink(0, 0), no possible target", pair.drawLink(0, 0), NONE);
    }

    void conventions_errorBeforeNoneInSeek() {
        LinkRewirer row = grid(3, 1);
        row.leave(1);
        due("seek(0, 3)", row.seek(0, 3), BAD);
        due("seek(0, 1)", row.seek(0, 1), STATE);
        due("seek(0, 2)", row.seek(0, 2), NONE);
    }

    void conventions_errorBeforeNoneInTarget() {
        due("target(16, 5)", x.target(16, 5), BAD);
        due("target(0, -1)", x.target(0, -1), BAD);
        due("target(0, 5)", x.target(0, 5), NONE);
    }

    void conventions_errorBeforeNoneInRoute() {
        x.leave(3);
        due("route(0, 16, 99)", x.route(0, 16, 99), BAD);
        due("route(0, 3, 99)", x.route(0, 3, 99), STATE);
        due("route(0, 2, 99)", x.route(0, 2, 99), NONE);
    }

    void conventions_errorBeforeNoneInWay() {
        LinkRewirer row = grid(3, 1);
        row.leave(1);
        due("way(0, 3)", row.way(0, 3), BAD);
        due("way(0, 1)", row.way(0, 1), STATE);
        due("way(0, 2)", row.way(0, 2), NONE);
    }

    // "A call that returns one of them changes nothing."

    void conventions_refusedBeginChangesNothing() {
        dueUnchanged("begin(0, 1)", y -> y.begin(0, 1), BAD);
        dueUnchanged("begin(1, 0)", y -> y.begin(1, 0), BAD);
        dueUnchanged("begin(8, 1)", y -> y.begin(8, 1), BAD);
        dueUnchanged("begin(1, 8)", y -> y.begin(1, 8), BAD);
    }

    void conventions_refusedLinkChangesNothing() {
        dueUnchanged("link(0, 6)", y -> y.link(0, 6), BAD);
        dueUnchanged("link(6, 0)", y -> y.link(6, 0), BAD);
        dueUnchanged("link(2, 2)", y -> y.link(2, 2), BAD);
        dueUnchanged("link(0, 4)", y -> y.link(0, 4), STATE);
        dueUnchanged("link(4, 0)", y -> y.link(4, 0), STATE);
    }

    void conventions_refusedUnlinkChangesNothing() {
        dueUnchanged("unlink(0, 2)", y -> y.unlink(0, 2), BAD);
        dueUnchanged("unlink(0, -1)", y -> y.unlink(0, -1), BAD);
        dueUnchanged("unlink(4, 0)", y -> y.unlink(4, 0), BAD);
        dueUnchanged("unlink(6, 0)", y -> y.unlink(6, 0), BAD);
    }

    void conventions_refusedDrawLinkChangesNothing() {
        dueUnchanged("drawLink(6, 0)", y -> y.drawLink(6, 0), BAD);
        dueUnchanged("drawLink(0, 3)", y -> y.drawLink(0, 3), BAD);
        dueUnchanged("drawLink(4, 0)", y -> y.drawLink(4, 0), STATE);
    }

    void conventions_refusedSeekChangesNothing() {
        dueUnchanged("seek(0, 6)", y -> y.seek(0, 6), BAD);
        dueUnchanged("seek(6, 0)", y -> y.seek(6, 0), BAD);
        dueUnchanged("seek(0, 4)", y -> y.seek(0, 4), STATE);
        dueUnchanged("seek(4, 0)", y -> y.seek(4, 0), STATE);
    }

    void conventions_refusedSeekSomeChangesNothing() {
        dueUnchanged("seekSome(0)", y -> y.seekSome(0), BAD);
        dueUnchanged("seekSome(21)", y -> y.seekSome(21), BAD);
    }

    void conventions_refusedExchangeChangesNothing() {
        dueUnchanged("exchange(2, 2)", y -> y.exchange(2, 2), BAD);
        dueUnchanged("exchange(2, 6)", y -> y.exchange(2, 6), BAD);
        dueUnchanged("exchange(2, 4)", y -> y.exchange(2, 4), STATE);
        dueUnchanged("exchange(4, 2)", y -> y.exchange(4, 2), STATE);
    }

    void conventions_refusedLeaveChangesNothing() {
        dueUnchanged("leave(6)", y -> y.leave(6), BAD);
        dueUnchanged("leave(4)", y -> y.leave(4), STATE);
        LinkRewirer single = grid(1, 1);
        String before = seen(single);
        due("leave(0), the only one", single.leave(0), STATE);
        dueText("the network then", seen(single), before);
        due("changes then", single.told(9), 1);
    }

    void conventions_refusedEnterChangesNothing() {
        dueUnchanged("enter(6)", y -> y.enter(6), BAD);
        dueUnchanged("enter(0)", y -> y.enter(0), STATE);
    }

    void conventions_refusedSetChangesNothing() {
        dueUnchanged("set(0, 0)", y -> y.set(0, 0), BAD);
        dueUnchanged("set(0, 4)", y -> y.set(0, 4), BAD);
        dueUnchanged("set(1, -1)", y -> y.set(1, -1), BAD);
        dueUnchanged("set(1, 4)", y -> y.set(1, 4), BAD);
        dueUnchanged("set(2, 0)", y -> y.set(2, 0), BAD);
        dueUnchanged("set(2, 10)", y -> y.set(2, 10), BAD);
        dueUnchanged("set(3, -1)", y -> y.set(3, -1), BAD);
        dueUnchanged("set(4, 1)", y -> y.set(4, 1), BAD);
        dueUnchanged("set(-1, 1)", y -> y.set(-1, 1), BAD);
    }

    void conventions_refusedUndoChangesNothing() {
        String before = seen(x);
        due("undo()", x.undo(), STATE);
        dueText("the network then", seen(x), before);
        due("told(9) then", x.told(9), 0);
    }

    void conventions_refusedQuestionsChangeNothing() {
        dueUnchanged("told(10)", y -> y.told(10), BAD);
        dueUnchanged("node(0, 7)", y -> y.node(0, 7), BAD);
        dueUnchanged("target(0, -1)", y -> y.target(0, -1), BAD);
        dueUnchanged("distance(0, 6)", y -> y.distance(0, 6), BAD);
        dueUnchanged("measure(8)", y -> y.measure(8), BAD);
    }

    void conventions_refusedRoutesAndPathsChangeNothing() {
        dueUnchanged("route(0, 1, -3)", y -> y.route(0, 1, -3), BAD);
        dueUnchanged("route(0, 4, 0)", y -> y.route(0, 4, 0), STATE);
        dueUnchanged("way(0, 6)", y -> y.way(0, 6), BAD);
        dueUnchanged("way(0, 4)", y -> y.way(0, 4), STATE);
        dueUnchanged("paths(0, 6)", y -> y.paths(0, 6), BAD);
        dueUnchanged("paths(0, 4)", y -> y.paths(0, 4), STATE);
    }

    void conventions_refusedKeepAndBackChangeNothing() {
        dueUnchanged("keep(2)", y -> y.keep(2), BAD);
        dueUnchanged("keep(-1)", y -> y.keep(-1), BAD);
        dueUnchanged("back(2)", y -> y.back(2), BAD);
        dueUnchanged("back(-1)", y -> y.back(-1), BAD);
        dueUnchanged("back(1), nothing kept", y -> y.back(1), STATE);
    }

    // "W columns and H rows, with W and H from 1 to 7; at first both are 4" and "N = W * H nodes, 0 to N - 1"

    void networks_atFirstFourByFour() {
        duesTold(x, 16, 4);
        due("distance(0, 12), three rows", x.distance(0, 12), 3);
        due("node(15, 0), the last node", x.node(15, 0), 15);
        due("node(16, 0), past the last one", x.node(16, 0), BAD);
    }

    void networks_smallestGrid() {
        LinkRewirer single = grid(1, 1);
        duesTold(single, 1, 1, 1, 0, 0);
        duesNode(single, 0, 0, 1, 0, 0, 0, 0, 0);
        due("node(1, 0)", single.node(1, 0), BAD);
    }

    void networks_largestGrid() {
        LinkRewirer large = grid(7, 7);
        duesTold(large, 49, 7, 49, 0, 0);
        duesNode(large, 48, 48, 1, 2, 0, 0, 48, 12);
        due("node(49, 0)", large.node(49, 0), BAD);
    }

    void networks_oneColumn() {
        LinkRewirer column = grid(1, 7);
        duesTold(column, 7, 1);
        duesNode(column, 0, 0, 1, 1, 0, 0, 6, 6);
        duesNode(column, 3, 3, 1, 2, 0, 0, 6, 3);
        duesNode(column, 6, 6, 1, 1, 0, 0, 6, 6);
    }

    void networks_oneRow() {
        LinkRewirer row = grid(7, 1);
        duesTold(row, 7, 7);
        duesNode(row, 0, 0, 1, 1, 0, 0, 6, 6);
        duesNode(row, 3, 3, 1, 2, 0, 0, 6, 3);
        duesNode(row, 6, 6, 1, 1, 0, 0, 6, 6);
    }

    // "the place k is in the column k modulo W and the row k / W"

    void networks_rowsWrapAfterWPlaces() {
        due("distance(3, 4)", x.distance(3, 4), 4);
        LinkRewirer wide = grid(7, 2);
        due("wide: distance(6, 7)", wide.distance(6, 7), 7);
        due("wide: distance(0, 7)", wide.distance(0, 7), 1);
        LinkRewirer high = grid(2, 7);
        due("high: distance(1, 2)", high.distance(1, 2), 2);
        due("high: distance(0, 2)", high.distance(0, 2), 1);
    }

    void networks_atFirstNodeKHasPlaceK() {
        LinkRewirer large = grid(7, 7);
        for (int k = 0; k < 49; k++) {
            due("node(" + k + ", 0)", large.node(k, 0), k);
        }
    }

    // "The distance .. both without sign."

    void networks_distanceHasNoSign() {
        due("distance(3, 12)", x.distance(3, 12), 6);
        due("distance(12, 3)", x.distance(12, 3), 6);
        due("distance(15, 0)", x.distance(15, 0), 6);
        due("distance(5, 2)", x.distance(5, 2), 2);
        due("distance(2, 5)", x.distance(2, 5), 2);
    }

    // "Two nodes are neighbors if their distance is 1."

    void networks_cornerHasTwoNeighbors() {
        for (int corner : new int[] {0, 3, 12, 15}) {
            due("node(" + corner + ", 2)", x.node(corner, 2), 2);
        }
    }

    void networks_edgeHasThreeNeighbors() {
        for (int u : new int[] {1, 4, 7, 14}) {
            due("node(" + u + ", 2)", x.node(u, 2), 3);
        }
    }

    void networks_insideHasFourNeighbors() {
        for (int u : new int[] {5, 6, 9, 10}) {
            due("node(" + u + ", 2)", x.node(u, 2), 4);
        }
    }

    void networks_rowEndIsNoNeighborOfNextRow() {
        due("way(3, 4)", x.way(3, 4), 4);
        due("way(4, 3)", x.way(4, 3), 4);
    }

    void networks_noNeighborsAroundTheGrid() {
        due("way(0, 3)", x.way(0, 3), 3);
        due("way(12, 0)", x.way(12, 0), 3);
    }

    void networks_diagonalIsNoNeighbor() {
        due("way(0, 5)", x.way(0, 5), 2);
        due("way(6, 3)", x.way(6, 3), 2);
    }

    // "at first all are present" and "At first there are no long links."

    void networks_atFirstAllPresentWithoutLinks() {
        duesTold(x, 16, 4, 16, 0, 0);
        for (int u = 0; u < 16; u++) {
            due("node(" + u + ", 1)", x.node(u, 1), 1);
            due("target(" + u + ", 0)", x.target(u, 0), NONE);
        }
    }

    // "A present node has 0 to 3 long links, in an order, the oldest one first .. no two of them have the same
    // target. (A target can also be a neighbor.)"

    void networks_threeLongLinksAtMost() {
        x.set(0, 3);
        for (int t = 5; t <= 9; t++) {
            due("link(0, " + t + ")", x.link(0, t), Math.min(t - 4, 3));
        }
        duesTargets(x, 0, 7, 8, 9);
    }

    void networks_threeLongLinksAtEachNode() {
        LinkRewirer large = grid(7, 7);
        large.set(0, 3);
        for (int u = 0; u < 49; u++) {
            for (int k = 1; k <= 3; k++) {
                due("link of " + u, large.link(u, (u + k) % 49), k);
            }
        }
        due("told(3)", large.told(3), 147);
        duesTargets(large, 0, 1, 2, 3);
        duesTargets(large, 48, 0, 1, 2);
    }

    void networks_noTwoLinksToOneTarget() {
        x.set(0, 3);
        x.link(0, 9);
        x.link(0, 9);
        duesTargets(x, 0, 9);
    }

    void networks_targetMayBeNeighbor() {
        due("link(0, 1)", x.link(0, 1), 1);
        duesTargets(x, 0, 1);
    }

    // "The contacts of a present node are its neighbors that are present, and the targets of its long links, each
    // node once."

    void networks_contactsCountEachNodeOnce() {
        x.link(0, 1);
        due("node(0, 2), the target a neighbor", x.node(0, 2), 2);
        x.link(0, 9);
        due("node(0, 2), the target far", x.node(0, 2), 3);
    }

    void networks_absentNeighborIsNoContact() {
        x.leave(1);
        due("node(0, 2)", x.node(0, 2), 1);
        x.leave(4);
        due("node(0, 2), none left", x.node(0, 2), 0);
    }

    void networks_linkToANodeIsNoContactOfIt() {
        x.link(15, 0);
        due("node(0, 2)", x.node(0, 2), 2);
        due("node(15, 2)", x.node(15, 2), 3);
    }

    // "An absent node keeps its place."

    void networks_absentNodeKeepsItsPlace() {
        x.exchange(5, 10);
        x.leave(5);
        due("node(5, 0)", x.node(5, 0), 10);
        x.exchange(0, 15);
        due("node(5, 0), others exchanged", x.node(5, 0), 10);
        x.enter(5);
        due("node(5, 0), returned", x.node(5, 0), 10);
    }

    // LOOKUPS: "begins at s. As long as it is not at t"

    void lookups_fromANodeToItself() {
        for (int u = 0; u < 16; u++) {
            duesRoute(x, u, u, u);
        }
    }

    // "of the contacts .. whose distance from t is less than that of this node"

    void lookups_equalDistanceIsNotTaken() {
        // 0 and 15 are both at the distance 3 from 12
        x.leave(4);
        x.link(0, 15);
        duesRoute(x, 0, 12, 0);
    }

    void lookups_greaterDistanceIsNotTaken() {
        x.leave(4);
        x.link(0, 3);
        duesRoute(x, 0, 12, 0);
    }

    // "it goes to the one with the least distance from t"

    void lookups_leastDistanceBeforeLowerNumber() {
        x.link(0, 14);
        duesRoute(x, 0, 15, 0, 14, 15);
    }

    void lookups_targetItselfIsLeast() {
        x.link(0, 15);
        x.link(0, 14);
        duesRoute(x, 0, 15, 0, 15);
    }

    // "of several to the one with the lowest number"

    void lookups_lowestNumberOfEqualNeighbors() {
        duesRoute(x, 0, 15, 0, 1, 2, 3, 7, 11, 15);
        duesRoute(x, 15, 0, 15, 11, 7, 3, 2, 1, 0);
    }

    void lookups_lowestNumberNotLowestPlace() {
        x.exchange(1, 10);
        duesRoute(x, 0, 5, 0, 4, 5);
    }

    void lookups_lowestNumberNotOldestLink() {
        x.link(0, 14);
        x.link(0, 11);
        duesRoute(x, 0, 15, 0, 11, 15);
        x.link(1, 11);
        x.link(1, 14);
        duesRoute(x, 1, 15, 1, 11, 15);
    }

    void lookups_lowestNumberOfLinkAndNeighbor() {
        // 6, 9, 11 and 12 are at the distance 2 from 14
        x.link(8, 11);
        duesRoute(x, 8, 14, 8, 9, 10, 14);
        x.link(8, 6);
        duesRoute(x, 8, 14, 8, 6, 10, 14);
    }

    // "if there is no such contact, the lookup fails there"

    void lookups_failsAtItsBegin() {
        LinkRewirer row = grid(3, 1);
        row.leave(1);
        duesRoute(row, 0, 2, 0);
    }

    void lookups_failsOnItsWay() {
        x.leave(8);
        duesRoute(x, 0, 12, 0, 4);
    }

    void lookups_failsWithoutContacts() {
        x.leave(1);
        x.leave(4);
        duesRoute(x, 0, 15, 0);
    }

    // "the number of its steps is the length of this list minus 1"

    void lookups_longestRouteHasTwelveSteps() {
        duesRoute(grid(7, 7), 0, 48, 0, 1, 2, 3, 4, 5, 6, 13, 20, 27, 34, 41, 48);
    }

    void lookups_oneStep() {
        duesRoute(x, 5, 6, 5, 6);
    }

    // RANDOM NUMBERS: "There is a seed, 1 at first."

    void random_seedIsOneAtFirst() {
        due("told(8)", x.told(8), 1);
        x.drawLink(0, 0);
        due("told(8) after a draw", x.told(8), 1103527590);
    }

    // "the seed becomes (1103515245 * seed + 12345) modulo 2147483648, computed without overflow"

    void random_fromTheLeastSeed() {
        x.set(3, 0);
        x.drawLink(0, 0);
        due("told(8)", x.told(8), 12345);
    }

    void random_fromTheGreatestSeed() {
        x.set(3, HIGH);
        x.drawLink(0, 0);
        due("told(8)", x.told(8), 1043980748);
    }

    void random_seedNeverOverflows() {
        long seed = 1;
        for (int i = 0; i < 100; i++) {
            x.seekSome(1);
            seed = seedAfter(seed, 2);
            due("told(8) after " + (i + 1) + " lookups", x.told(8), seed);
        }
        x.set(3, seedFor(32768, 32767));
        x.seekSome(1);
        due("told(8) past the greatest number", x.told(8), seedAfter(seedFor(32768, 32767), 2));
    }

    // "the number is (seed / 65536) modulo n"

    void random_numberIsModuloN() {
        LinkRewirer large = grid(7, 7);
        large.set(1, 1);
        int[] seeds = {0, 1, 77, 65535, 65536, 1 << 30, HIGH - 1, HIGH, seedFor(49, 0, 48), seedFor(49, 48, 0)};
        for (int seed : seeds) {
            int s = drawn(seed, 1, 49);
            int t = drawn(seed, 2, 49);
            large.set(3, seed);
            large.seekSome(1);
            due("link made from the seed " + seed, large.target(s, 0), s == t ? NONE : t);
            large.undo();
        }
    }

    void random_numberBelowOneIsZero() {
        LinkRewirer single = grid(1, 1);
        due("seekSome(20)", single.seekSome(20), 20);
        due("told(8), drawn all the same", single.told(8), seedAfter(1, 40));
    }

    // MEASURES: "it is a list of nodes", "The way .. is the least number of steps of a path; there is none if
    // there is no path.", "all ordered pairs of different present nodes"

    void measures_pathsAreListsOfNodes() {
        // the long link to a neighbor makes no second path
        x.link(0, 1);
        due("paths(0, 1)", x.paths(0, 1), 1);
        due("paths(0, 2)", x.paths(0, 2), 1);
    }

    void measures_wayIsTheLeastNotTheLookup() {
        LinkRewirer row = grid(7, 1);
        row.link(1, 6);
        // 2 could go back to 1 and by its long link
        due("way(2, 6)", row.way(2, 6), 2);
        due("route(2, 6, -1)", row.route(2, 6, -1), 4);
    }

    void measures_wayAndWayBackDiffer() {
        LinkRewirer row = grid(7, 1);
        row.link(0, 6);
        due("way(0, 6)", row.way(0, 6), 1);
        due("way(6, 0)", row.way(6, 0), 6);
    }

    void measures_noWayWithoutPath() {
        LinkRewirer row = grid(3, 1);
        row.leave(1);
        due("way(0, 2)", row.way(0, 2), NONE);
        due("measure(1)", row.measure(1), 0);
    }

    void measures_pairsAreOrdered() {
        due("measure(0) of two nodes", grid(2, 1).measure(0), 2);
        due("measure(0) of 49 nodes", grid(7, 7).measure(0), 2352);
    }

    void measures_pairsAreOfDifferentNodes() {
        due("measure(0) of one node", grid(1, 1).measure(0), 0);
        due("measure(1) of one node", grid(1, 1).measure(1), 0);
        due("measure(4) of one node", grid(1, 1).measure(4), 0);
    }

    void measures_pairsAreOfPresentNodes() {
        LinkRewirer row = grid(3, 1);
        row.leave(2);
        duesMeasures(row, 2, 2, 1, 2, 2, 1, 2, 2);
        row.leave(1);
        duesMeasures(row, 0, 0, 0, 0, 0, 0, 0, 0);
    }
}
