/** The boundary cases that the document names in its sections REWIRING and CHANGES. */
public final class RewiringCasesTest extends Cases {
    public static void main(String[] args) throws IllegalAccessException {
        run(RewiringCasesTest::new);
    }

    // "if the node already has a long link to it, or is the target itself, nothing happens"

    void rewiring_linkThatIsThereStaysInItsOrder() {
        x.set(0, 3);
        x.link(0, 5);
        x.link(0, 6);
        x.link(0, 7);
        due("link(0, 5)", x.link(0, 5), 3);
        due("link(0, 6)", x.link(0, 6), 3);
        due("link(0, 7)", x.link(0, 7), 3);
        duesTargets(x, 0, 5, 6, 7);
    }

    void rewiring_linkThatIsThereAboveTheLimit() {
        x.link(0, 5);
        x.link(0, 6);
        x.set(0, 1);
        due("link(0, 6)", x.link(0, 6), 2);
        due("link(0, 5)", x.link(0, 5), 2);
        duesTargets(x, 0, 5, 6);
    }

    void rewiring_nodeThatIsTheTargetItself() {
        x.link(5, 0);
        x.link(5, 1);
        x.set(1, 1);
        due("seek(5, 5)", x.seek(5, 5), 0);
        duesTargets(x, 5, 0, 1);
    }

    // "if the node has as many long links as the limit says, or more, just the oldest one is removed"

    void rewiring_belowTheLimitNoneIsRemoved() {
        x.link(0, 5);
        due("link(0, 6), one of two", x.link(0, 6), 2);
        duesTargets(x, 0, 5, 6);
    }

    void rewiring_atTheLimitTheOldestIsRemoved() {
        x.link(0, 5);
        x.link(0, 6);
        due("link(0, 7), two of two", x.link(0, 7), 2);
        duesTargets(x, 0, 6, 7);
    }

    void rewiring_aboveTheLimitJustTheOldestIsRemoved() {
        x.set(0, 3);
        x.link(0, 5);
        x.link(0, 6);
        x.link(0, 7);
        x.set(0, 1);
        due("link(0, 8), three of one", x.link(0, 8), 3);
        duesTargets(x, 0, 6, 7, 8);
        x.set(0, 2);
        due("link(0, 9), three of two", x.link(0, 9), 3);
        duesTargets(x, 0, 7, 8, 9);
        x.link(1, 5);
        x.link(1, 6);
        x.set(0, 1);
        due("link(1, 7), two of one", x.link(1, 7), 2);
        duesTargets(x, 1, 6, 7);
    }

    void rewiring_limitOneKeepsTheNewest() {
        x.set(0, 1);
        x.link(0, 5);
        due("link(0, 6)", x.link(0, 6), 1);
        duesTargets(x, 0, 6);
    }

    void rewiring_limitThreeDropsTheOldestAtTheFourth() {
        x.set(0, 3);
        x.link(0, 5);
        x.link(0, 6);
        due("link(0, 7)", x.link(0, 7), 3);
        due("link(0, 8)", x.link(0, 8), 3);
        duesTargets(x, 0, 6, 7, 8);
    }

    // "a number from 1 to 3 (2 at first); if it becomes less, long links that are there stay"

    void rewiring_limitIsTwoAtFirst() {
        due("told(5)", x.told(5), 2);
    }

    void rewiring_linksStayWhenTheLimitBecomesLess() {
        x.set(0, 3);
        x.link(0, 5);
        x.link(0, 6);
        x.link(0, 7);
        x.set(0, 1);
        duesTargets(x, 0, 5, 6, 7);
        due("told(3)", x.told(3), 3);
    }

    // "There is a rule, 0 at first, that tells what happens after a lookup by seek() that has reached t: 0 nothing"

    void rewiring_ruleZeroDoesNothing() {
        due("told(6)", x.told(6), 0);
        String before = seen(x);
        due("seek(0, 15)", x.seek(0, 15), 6);
        dueText("the network after seek(0, 15)", seen(x), before);
    }

    void rewiring_failedLookupRewiresNothing() {
        for (int rule = 0; rule <= 3; rule++) {
            LinkRewirer y = new LinkRewirer();
            y.leave(11);
            y.leave(14);
            y.set(1, rule);
            y.set(2, 1);
            String before = seen(y);
            due("seek(0, 15) by rule " + rule, y.seek(0, 15), NONE);
            dueText("the network after it, rule " + rule, seen(y), before);
        }
    }

    // "1 s gets a long link to t"

    void rewiring_ruleOneLinksOneStep() {
        x.set(1, 1);
        due("seek(0, 1)", x.seek(0, 1), 1);
        duesTargets(x, 0, 1);
        due("told(3)", x.told(3), 1);
    }

    void rewiring_ruleOneLinksOnlyTheFirst() {
        x.set(1, 1);
        due("seek(0, 15)", x.seek(0, 15), 6);
        duesTargets(x, 0, 15);
        due("told(3)", x.told(3), 1);
        due("told(8), nothing drawn", x.told(8), 1);
    }

    void rewiring_ruleOneFromItself() {
        x.set(1, 1);
        due("seek(0, 0)", x.seek(0, 0), 0);
        due("told(3)", x.told(3), 0);
    }

    void rewiring_ruleOneKeepsALinkThatIsThere() {
        x.set(1, 1);
        x.link(0, 15);
        x.link(0, 9);
        due("seek(0, 15)", x.seek(0, 15), 1);
        duesTargets(x, 0, 15, 9);
    }

    // "2 for each node of the route except t, in the order of the route, a number below the chance is drawn, and
    // if it is 0, this node gets a long link to t (the chance is a number from 1 to 9, 3 at first)"

    void rewiring_ruleTwoChanceIsThreeAtFirst() {
        due("told(7)", x.told(7), 3);
        x.set(1, 2);
        x.set(3, seedFor(3, 0, 1, 2));
        due("seek(0, 3)", x.seek(0, 3), 3);
        duesTargets(x, 0, 3);
        due("told(3)", x.told(3), 1);
    }

    void rewiring_ruleTwoChanceOneLinksAllButTheEnd() {
        x.set(1, 2);
        x.set(2, 1);
        due("seek(0, 15)", x.seek(0, 15), 6);
        for (int u : new int[] {0, 1, 2, 3, 7, 11}) {
            duesTargets(x, u, 15);
        }
        due("told(3)", x.told(3), 6);
        due("told(8), drawn all the same", x.told(8), seedAfter(1, 6));
    }

    void rewiring_ruleTwoChanceNineLinksAtZeroAlone() {
        for (int number = 0; number < 9; number++) {
            LinkRewirer y = new LinkRewirer();
            y.set(1, 2);
            y.set(2, 9);
            y.set(3, seedFor(9, number));
            due("seek(0, 1), the number " + number, y.seek(0, 1), 1);
            due("target(0, 0), the number " + number, y.target(0, 0), number == 0 ? 1 : NONE);
        }
    }

    void rewiring_ruleTwoInTheOrderOfTheRoute() {
        x.set(1, 2);
        x.set(2, 2);
        x.set(3, seedFor(2, 0, 1, 1));
        due("seek(15, 12)", x.seek(15, 12), 3);
        duesTargets(x, 15, 12);
        due("told(3)", x.told(3), 1);
        x.set(3, seedFor(2, 1, 1, 0));
        due("seek(8, 11)", x.seek(8, 11), 3);
        duesTargets(x, 10, 11);
        due("told(3) then", x.told(3), 2);
    }

    void rewiring_ruleTwoFromItselfDrawsNothing() {
        x.set(1, 2);
        x.set(2, 1);
        due("seek(5, 5)", x.seek(5, 5), 0);
        due("told(8)", x.told(8), 1);
        due("told(3)", x.told(3), 0);
    }

    void rewiring_ruleTwoOneStepDrawsOnce() {
        x.set(1, 2);
        due("seek(5, 6)", x.seek(5, 6), 1);
        due("told(8)", x.told(8), seedAfter(1));
    }

    void rewiring_ruleTwoDrawsForALinkThatIsThere() {
        x.link(2, 3);
        x.set(1, 2);
        x.set(2, 1);
        due("seek(0, 3)", x.seek(0, 3), 3);
        due("told(8)", x.told(8), seedAfter(1, 3));
        duesTargets(x, 2, 3);
        due("told(3)", x.told(3), 3);
    }

    void rewiring_ruleTwoAtTheLimitDropsTheOldest() {
        x.link(1, 12);
        x.link(1, 8);
        x.set(1, 2);
        x.set(2, 1);
        due("seek(0, 2)", x.seek(0, 2), 2);
        duesTargets(x, 0, 2);
        duesTargets(x, 1, 8, 2);
    }

    // "3 the node in the middle of the route, whose index in it is the number of steps divided by 2, rounded down,
    // gets a long link to t, if the route has more than one step"

    void rewiring_ruleThreeNoStep() {
        x.set(1, 3);
        due("seek(5, 5)", x.seek(5, 5), 0);
        due("told(3)", x.told(3), 0);
    }

    void rewiring_ruleThreeOneStepIsTooShort() {
        x.set(1, 3);
        due("seek(0, 1)", x.seek(0, 1), 1);
        due("told(3)", x.told(3), 0);
    }

    void rewiring_ruleThreeTwoSteps() {
        x.set(1, 3);
        due("seek(0, 2)", x.seek(0, 2), 2);
        duesTargets(x, 1, 2);
        due("told(3)", x.told(3), 1);
    }

    void rewiring_ruleThreeThreeStepsRoundedDown() {
        x.set(1, 3);
        due("seek(0, 3)", x.seek(0, 3), 3);
        duesTargets(x, 1, 3);
        due("told(3)", x.told(3), 1);
    }

    void rewiring_ruleThreeFourAndFiveSteps() {
        LinkRewirer row = grid(7, 1);
        row.set(1, 3);
        due("seek(0, 4)", row.seek(0, 4), 4);
        duesTargets(row, 2, 4);
        due("seek(6, 1)", row.seek(6, 1), 5);
        duesTargets(row, 4, 1);
        due("told(3)", row.told(3), 2);
    }

    void rewiring_ruleThreeLongestRoute() {
        LinkRewirer large = grid(7, 7);
        large.set(1, 3);
        due("seek(0, 48)", large.seek(0, 48), 12);
        duesTargets(large, 6, 48);
        due("told(3)", large.told(3), 1);
        due("told(8), nothing drawn", large.told(8), 1);
    }

    void rewiring_ruleThreeMiddleHasTheLink() {
        x.link(1, 14);
        x.link(1, 9);
        x.set(1, 3);
        due("seek(0, 14)", x.seek(0, 14), 2);
        duesTargets(x, 1, 14, 9);
        due("told(3)", x.told(3), 2);
    }

    // CHANGES: "Some methods are called changes below (also if they change nothing)."

    void changes_linkThatIsThere() {
        x.link(0, 5);
        dueChange("link(0, 5)", x, y -> y.link(0, 5), 1);
    }

    void changes_seekByRuleZero() {
        dueChange("seek(0, 15)", x, y -> y.seek(0, 15), 6);
    }

    void changes_seekFromItself() {
        dueChange("seek(3, 3)", x, y -> y.seek(3, 3), 0);
    }

    void changes_seekThatFails() {
        LinkRewirer row = grid(3, 1);
        row.leave(1);
        dueChange("seek(0, 2)", row, y -> y.seek(0, 2), NONE);
    }

    void changes_drawLinkWithoutTargets() {
        dueChange("drawLink(0, 0)", grid(1, 1), y -> y.drawLink(0, 0), NONE);
    }

    void changes_exchangeNotMade() {
        x.link(0, 1);
        dueChange("exchange(1, 15)", x, y -> y.exchange(1, 15), 0);
    }

    void changes_beginOfTheSame() {
        dueChange("begin(4, 4)", x, y -> y.begin(4, 4), 16);
    }

    void changes_setToTheSame() {
        dueChange("set(0, 2)", x, y -> y.set(0, 2), 2);
        dueChange("set(1, 0)", x, y -> y.set(1, 0), 0);
        dueChange("set(2, 3)", x, y -> y.set(2, 3), 3);
        dueChange("set(3, 1)", x, y -> y.set(3, 1), 1);
    }

    void changes_backToTheSame() {
        x.keep(0);
        dueChange("back(0)", x, y -> y.back(0), 0);
    }

    void changes_seekSomeThatReachesNothing() {
        LinkRewirer row = grid(3, 1);
        row.leave(1);
        row.set(3, seedFor(3, 0, 2));
        dueChange("seekSome(1)", row, y -> y.seekSome(1), 0);
    }

    // The other calls are no changes.

    void changes_keepIsNone() {
        x.link(0, 5);
        due("keep(0)", x.keep(0), 1);
        due("told(9)", x.told(9), 1);
        due("undo()", x.undo(), 0);
        due("told(3)", x.told(3), 0);
    }

    void changes_undoIsNone() {
        x.set(3, 5);
        x.set(3, 6);
        due("undo()", x.undo(), 1);
        due("told(9)", x.told(9), 1);
        due("undo() again", x.undo(), 0);
        due("told(8)", x.told(8), 1);
    }

    void changes_questionsAreNone() {
        x.set(1, 2);
        x.set(2, 1);
        x.link(0, 9);
        String before = seen(x);
        long answers = x.node(0, 6) + x.target(0, 0) + x.distance(0, 15) + x.route(0, 15, -1) + x.route(0, 15, 1)
                + x.way(0, 15) + x.paths(0, 15) + x.measure(4) + x.measure(3) + (long) x.mean();
        due("there are answers", answers == 0 ? 0 : 1, 1);
        dueText("the network", seen(x), before);
        due("told(9)", x.told(9), 3);
    }

    // "A history of at most 8 states is kept .. if there are more than 8, the oldest one is dropped; undo() removes
    // the latest state and restores it."

    void changes_eightCanBeUndone() {
        setSeeds(8);
        due("told(9)", x.told(9), 8);
        dueUndone(8);
        due("told(8), as at first", x.told(8), 1);
    }

    void changes_ninthDropsTheOldest() {
        setSeeds(9);
        due("told(9)", x.told(9), 8);
        dueUndone(8);
        due("told(8), after the first", x.told(8), 101);
    }

    void changes_manyDropManyOfTheOldest() {
        setSeeds(100);
        due("told(9)", x.told(9), 8);
        dueUndone(8);
        due("told(8), after the 92nd", x.told(8), 192);
    }

    void changes_undoRestoresTheLatest() {
        setSeeds(3);
        due("undo()", x.undo(), 2);
        due("told(8)", x.told(8), 102);
    }

    void changes_undoneAndMadeAnew() {
        setSeeds(8);
        dueUndone(3, 8);
        x.set(0, 3);
        due("told(9)", x.told(9), 6);
        due("undo()", x.undo(), 5);
        due("told(8)", x.told(8), 105);
        setSeeds(4);
        due("told(9), full again", x.told(9), 8);
        dueUndone(8);
        due("told(8), then", x.told(8), 101);
    }

    /** Sets the seed to 101, 102 and so on. */
    private void setSeeds(int count) {
        for (int i = 1; i <= count; i++) {
            x.set(3, 100 + i);
        }
    }

    private void dueUndone(int all) {
        dueUndone(all, all);
        due("undo(), nothing left", x.undo(), STATE);
    }

    private void dueUndone(int count, int all) {
        for (int left = all - 1; left >= all - count; left--) {
            due("undo() to " + left, x.undo(), left);
            due("told(9)", x.told(9), left);
        }
    }

    // "a change that returns no error code records the network before it, with the seed, the limit, the rule and
    // the chance"

    void changes_stateHoldsTheSettings() {
        dueChange("set(0, 3)", x, y -> y.set(0, 3), 2);
        dueChange("set(1, 3)", x, y -> y.set(1, 3), 0);
        dueChange("set(2, 9)", x, y -> y.set(2, 9), 3);
        dueChange("set(3, 9)", x, y -> y.set(3, 9), 1);
    }

    void changes_stateHoldsTheSeedBeforeDraws() {
        x.set(1, 2);
        dueChange("drawLink(0, 0)", x, y -> y.drawLink(0, 0), 6);
        dueChange("seekSome(3)", x, y -> y.seekSome(3), 3);
        dueChange("seek(0, 15)", x, y -> y.seek(0, 15), 6);
    }

    void changes_stateHoldsTheLinks() {
        x.link(0, 5);
        x.link(0, 6);
        dueChange("link(0, 7)", x, y -> y.link(0, 7), 2);
        dueChange("unlink(0, 0)", x, y -> y.unlink(0, 0), 5);
        dueChange("leave(0)", x, y -> y.leave(0), 2);
    }

    void changes_stateHoldsTheNodesAndPlaces() {
        LinkRewirer small = grid(3, 2);
        dueChange("exchange(1, 5)", small, y -> y.exchange(1, 5), 1);
        dueChange("begin(7, 7)", small, y -> y.begin(7, 7), 6);
        dueChange("leave(0)", small, y -> y.leave(0), 0);
        small.leave(0);
        dueChange("enter(0)", small, y -> y.enter(0), 2);
    }

    void changes_errorIsNotRecorded() {
        x.set(3, 5);
        due("set(0, 0)", x.set(0, 0), BAD);
        due("enter(0)", x.enter(0), STATE);
        due("told(9)", x.told(9), 1);
        due("undo()", x.undo(), 0);
        due("told(8)", x.told(8), 1);
    }

    // "The images do not belong to a state."

    void changes_undoDoesNotEmptyAnImage() {
        x.link(0, 5);
        x.keep(0);
        x.undo();
        due("back(0)", x.back(0), 1);
    }

    void changes_undoDoesNotRestoreAnImage() {
        x.keep(0);
        x.link(0, 5);
        x.keep(0);
        x.link(0, 6);
        x.undo();
        x.undo();
        due("back(0)", x.back(0), 1);
        duesTargets(x, 0, 5);
    }

    void changes_undoOfBackLeavesTheImage() {
        x.link(0, 5);
        x.keep(1);
        x.begin(2, 2);
        x.back(1);
        due("undo()", x.undo(), 2);
        due("told(0)", x.told(0), 4);
        due("back(1)", x.back(1), 1);
    }
}
