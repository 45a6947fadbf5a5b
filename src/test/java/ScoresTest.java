/** Promises 6, 10, 11 and 12: prefers, score, scoreAt and champion. */
public final class ScoresTest {
    private ScoresTest() {
    }

    public static void main(String[] args) {
        prefersAddsWeights();
        unnamedIsBelowNamedOnly();
        prefersRefuses();
        scoresOfTheRing();
        greatestAndLeastScore();
        scoreRefuses();
        equalScoresByNumber();
        scoreAtRefuses();
        championBeatsEveryOther();
        tieHasNoChampion();
        beatsByMoreNotByHalf();
        Check.end();
    }

    /**
     * Promise 6: "prefers(a, b)"
     * Terms: "prefers(a, b) is the sum of the weights of the rankings that put a above b."
     */
    private static void prefersAddsWeights() {
        RankFusion x = Check.ring();
        Check.due("prefers(0, 1)", x.prefers(0, 1), 6);
        Check.due("prefers(1, 0)", x.prefers(1, 0), 3);
        Check.due("prefers(1, 2)", x.prefers(1, 2), 5);
        Check.due("prefers(2, 1)", x.prefers(2, 1), 4);
        Check.due("prefers(2, 0)", x.prefers(2, 0), 7);
        Check.due("prefers(0, 2)", x.prefers(0, 2), 2);
        Check.due("prefers(0, 3)", x.prefers(0, 3), 9);
        Check.due("prefers(3, 0)", x.prefers(3, 0), 0);
    }

    /**
     * Terms: "A ranking puts a above b when it names a, and does not name b or names it after a."
     * and "which need not name all documents."
     */
    private static void unnamedIsBelowNamedOnly() {
        RankFusion x = new RankFusion(4);
        Check.rank(x, 8, 3, 1);
        Check.due("prefers(3, 1), both named", x.prefers(3, 1), 8);
        Check.due("prefers(1, 3), both named", x.prefers(1, 3), 0);
        Check.due("prefers(1, 0), 0 unnamed", x.prefers(1, 0), 8);
        Check.due("prefers(0, 1), 0 unnamed", x.prefers(0, 1), 0);
        Check.due("prefers(0, 2), neither named", x.prefers(0, 2), 0);
        Check.due("prefers(2, 0), neither named", x.prefers(2, 0), 0);
    }

    /** Promise 6: "NONE when a = b, or a or b is no document." */
    private static void prefersRefuses() {
        RankFusion x = Check.ring();
        Bounds.refusesPairs("prefers", 4, x::prefers);
    }

    /**
     * Promise 10: "The score of document d: the sum, over all other documents b, of prefers(d, b) -
     * prefers(b, d)."
     * Promise 11: "The document at place k (0 the first) when the documents are put in the order of
     * their scores, the greatest first, equal ones by their numbers."
     */
    private static void scoresOfTheRing() {
        RankFusion x = Check.ring();
        int[] scores = {7, 7, 13, -27};
        int[] order = {2, 0, 1, 3};
        for (int i = 0; i < 4; i++) {
            Check.due("score(" + i + ")", x.score(i), scores[i]);
            Check.due("scoreAt(" + i + ")", x.scoreAt(i), order[i]);
        }
    }

    /** Promises 10 and 11 where every ranking says the same: "the greatest first" at its greatest. */
    private static void greatestAndLeastScore() {
        RankFusion x = new RankFusion(6);
        for (int k = 0; k < 5; k++) {
            Check.rank(x, 9, 5, 4, 3, 2, 1, 0);
        }
        for (int d = 0; d < 6; d++) {
            Check.due("score(" + d + ")", x.score(d), 45 * (2 * d - 5));
            Check.due("scoreAt(" + d + ")", x.scoreAt(d), 5 - d);
        }
        Check.due("prefers(5, 0)", x.prefers(5, 0), 45);
    }

    /** Promise 10: "-1000 when d is no document." */
    private static void scoreRefuses() {
        RankFusion x = Check.ring();
        int[] noDocument = {4, 5, 6, 36, -1, -1000, Integer.MIN_VALUE, Integer.MAX_VALUE};
        for (int d : noDocument) {
            Check.due("score(" + d + ")", x.score(d), -1000);
        }
    }

    /** Promise 11: "equal ones by their numbers." */
    private static void equalScoresByNumber() {
        RankFusion x = new RankFusion(6);
        Check.rank(x, 2, 4, 1);
        Check.rank(x, 2, 1, 4);
        int[] order = {1, 4, 0, 2, 3, 5};
        for (int k = 0; k < 6; k++) {
            Check.due("scoreAt(" + k + ")", x.scoreAt(k), order[k]);
        }
    }

    /** Promise 11: "NONE when k is not 0 .. documents - 1." */
    private static void scoreAtRefuses() {
        RankFusion x = Check.ring();
        int[] noPlace = {4, 5, 6, 36, -1, Integer.MIN_VALUE, Integer.MAX_VALUE};
        for (int k : noPlace) {
            Check.due("scoreAt(" + k + ")", x.scoreAt(k), RankFusion.NONE);
        }
    }

    /** Promise 12: "The document that beats every other one" */
    private static void championBeatsEveryOther() {
        for (int d = 0; d < 6; d++) {
            RankFusion x = new RankFusion(6);
            Check.rank(x, 1, d);
            Check.due("champion() when only " + d + " is named", x.champion(), d);
        }
        RankFusion ring = Check.ring();
        Check.due("champion() of the ring", ring.champion(), RankFusion.NONE);
        Check.rank(ring, 5, 0);
        Check.due("prefers(0, 2)", ring.prefers(0, 2), 7);
        Check.due("champion() when 0 and 2 are level", ring.champion(), RankFusion.NONE);
        Check.rank(ring, 1, 0);
        Check.due("champion() when 0 beats 2 as well", ring.champion(), 0);
    }

    /** Promise 12: "NONE when there is none." */
    private static void tieHasNoChampion() {
        RankFusion x = new RankFusion(3);
        Check.rank(x, 4, 1, 2);
        Check.rank(x, 4, 2, 1);
        Check.due("champion() of two level ones", x.champion(), RankFusion.NONE);
        Check.due("remove(1)", x.remove(1), true);
        Check.due("champion() after remove", x.champion(), 1);
    }

    /** Terms: "a BEATS b when prefers(a, b) > prefers(b, a).", however little of the weight that is. */
    private static void beatsByMoreNotByHalf() {
        RankFusion x = new RankFusion(3);
        Check.rank(x, 2, 1, 0);
        Check.rank(x, 1, 0, 1);
        Check.rank(x, 9);
        Check.due("prefers(1, 0)", x.prefers(1, 0), 2);
        Check.due("prefers(0, 1)", x.prefers(0, 1), 1);
        Check.due("champion() by 2 to 1 of a weight of 12", x.champion(), 1);
        Check.due("topSet() by 2 to 1 of a weight of 12", x.topSet(), 2);
        Check.due("strength(1, 0) by 2 to 1 of a weight of 12", x.strength(1, 0), 2);
        Check.due("begin(1)", x.begin(1), 3);
        Check.due("name(3, 0)", x.name(3, 0), true);
        Check.due("champion() by 2 to 2", x.champion(), RankFusion.NONE);
        Check.due("topSet() by 2 to 2", x.topSet(), 3);
        Check.due("strength(1, 0) by 2 to 2", x.strength(1, 0), 0);
        Check.due("strength(0, 1) by 2 to 2", x.strength(0, 1), 0);
    }
}
