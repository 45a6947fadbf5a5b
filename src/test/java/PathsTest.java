/** Promises 13, 14 and 15: topSet, strength and pathWinners. */
public final class PathsTest {
    private PathsTest() {
    }

    public static void main(String[] args) {
        pathsOfTheRing();
        topSetOfOne();
        topSetWithLevelDocuments();
        topSetIsNotTheUnbeaten();
        strengthOfLongPath();
        strengthNeedsBeating();
        strengthRefuses();
        pathWinnersByTie();
        Check.end();
    }

    private static void pathsOfTheRing() {
        RankFusion x = Check.ring();
        Check.due("topSet()", x.topSet(), 7);
        // The steps: 0 to 1 has 6, 1 to 2 has 5, 2 to 0 has 7, each of them to 3 has 9.
        Check.due("strength(0, 1)", x.strength(0, 1), 6);
        Check.due("strength(1, 0)", x.strength(1, 0), 5);
        Check.due("strength(1, 2)", x.strength(1, 2), 5);
        Check.due("strength(2, 1)", x.strength(2, 1), 6);
        Check.due("strength(2, 0)", x.strength(2, 0), 7);
        Check.due("strength(0, 2)", x.strength(0, 2), 5);
        Check.due("strength(1, 3)", x.strength(1, 3), 9);
        Check.due("strength(3, 1)", x.strength(3, 1), 0);
        Check.due("pathWinners()", x.pathWinners(), 4);
    }

    private static void topSetOfOne() {
        for (int d = 0; d < 6; d++) {
            RankFusion x = new RankFusion(6);
            Check.rank(x, 2, d);
            Check.due("topSet() when only " + d + " is named", x.topSet(), 1 << d);
            Check.due("pathWinners() when only " + d + " is named", x.pathWinners(), 1 << d);
        }
    }

    private static void topSetWithLevelDocuments() {
        RankFusion x = new RankFusion(6);
        Check.rank(x, 5, 5, 1, 0);
        Check.rank(x, 5, 1, 5, 0);
        Check.due("topSet() of two level ones", x.topSet(), 34);
        Check.due("pathWinners() of two level ones", x.pathWinners(), 34);
        RankFusion all = new RankFusion(6);
        Check.rank(all, 5, 0, 1, 2, 3, 4, 5);
        Check.rank(all, 5, 5, 4, 3, 2, 1, 0);
        Check.due("topSet() of all level", all.topSet(), 63);
        Check.due("pathWinners() of all level", all.pathWinners(), 63);
    }

    private static void topSetIsNotTheUnbeaten() {
        // 0 beats 1, and 2 is level with both: nothing less than all beats what is outside it.
        RankFusion x = new RankFusion(3);
        Check.rank(x, 1, 0, 1, 2);
        Check.rank(x, 1, 2, 0, 1);
        Check.due("prefers(0, 1)", x.prefers(0, 1), 2);
        Check.due("prefers(0, 2)", x.prefers(0, 2), 1);
        Check.due("prefers(2, 0)", x.prefers(2, 0), 1);
        Check.due("topSet()", x.topSet(), 7);
        Check.due("pathWinners()", x.pathWinners(), 5);
    }

    private static void strengthOfLongPath() {
        // Six documents in a ring of two steps each: 0 comes to 5 only by way of others.
        RankFusion x = new RankFusion(6);
        Check.rank(x, 1, 0, 1, 2, 3, 4, 5);
        Check.rank(x, 1, 2, 3, 4, 5, 0, 1);
        Check.rank(x, 1, 4, 5, 0, 1, 2, 3);
        Check.due("prefers(0, 4)", x.prefers(0, 4), 1);
        Check.due("prefers(0, 5)", x.prefers(0, 5), 1);
        Check.due("strength(0, 5)", x.strength(0, 5), 2);
        Check.due("strength(1, 0)", x.strength(1, 0), 2);
        Check.due("strength(0, 1)", x.strength(0, 1), 3);
        Check.due("topSet()", x.topSet(), 63);
        Check.due("pathWinners()", x.pathWinners(), 21);
    }

    private static void strengthNeedsBeating() {
        RankFusion x = new RankFusion(3);
        Check.rank(x, 5, 0, 1);
        Check.rank(x, 5, 1, 0);
        Check.due("strength(0, 1) of level ones", x.strength(0, 1), 0);
        Check.due("strength(1, 0) of level ones", x.strength(1, 0), 0);
        Check.due("strength(0, 2)", x.strength(0, 2), 10);
        Check.due("strength(2, 0)", x.strength(2, 0), 0);
        Check.rank(x, 1, 1);
        Check.due("strength(1, 0), the whole preference", x.strength(1, 0), 6);
        Check.due("strength(0, 1), beaten", x.strength(0, 1), 0);
    }

    private static void strengthRefuses() {
        RankFusion x = Check.ring();
        Bounds.refusesPairs("strength", 4, x::strength);
    }

    private static void pathWinnersByTie() {
        // The ring with equal weights: every path is as strong as its way back.
        RankFusion x = new RankFusion(4);
        Check.rank(x, 2, 0, 1, 2);
        Check.rank(x, 2, 1, 2, 0);
        Check.rank(x, 2, 2, 0, 1);
        Check.due("pathWinners() of an even ring", x.pathWinners(), 7);
        Check.due("topSet() of an even ring", x.topSet(), 7);
    }
}
