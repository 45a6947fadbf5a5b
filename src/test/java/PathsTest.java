import java.util.stream.IntStream;

/** Promises 13, 14 and 15: topSet, strength and pathWinners. */
public final class PathsTest {
    private PathsTest() {
    }

    public static void main(String[] args) {
        pathsOfTheRing();
        topSetOfOne();
        topSetWithLevelDocuments();
        topSetIsNotTheUnbeaten();
        strengthOfLongPath();
        strengthThroughAllDocuments();
        bestOfSeveralPaths();
        strengthNeedsBeating();
        strengthRefuses();
        pathWinnersByTie();
        Check.end();
    }

    /**
     * Promise 14: "The strength of the best path from a to b: a path is a list of different documents
     * that begins with a and ends with b, in which each one beats the next one; its strength is the
     * least of prefers(x, y) over its steps from x to y."
     * Promise 15: "The documents a for which strength(a, b) >= strength(b, a) for every other document
     * b (bit a for document a)."
     */
    private static void pathsOfTheRing() {
        RankFusion x = Check.ring();
        Check.due("topSet()", x.topSet(), 7);
        // The steps: 0 to 1 has 6, 1 to 2 has 5, 2 to 0 has 7, each of them to 3 has 9.
        Check.due("strength(0, 1)", x.strength(0, 1), 6);
        Check.due("strength(1, 0)", x.strength(1, 0), 5);
        Check.due("strength(1, 2)", x.strength(1, 2), 5);
        Check.due("strength(2, 1)", x.strength(2, 1), 6);
        Check.due("strength(2, 0)", x.strength(2, 0), 7);
        Check.due("strength(0, 2)", x.strength(0, 2), 5);
        Check.due("strength(1, 3)", x.strength(1, 3), 9);
        Check.due("strength(3, 1)", x.strength(3, 1), 0);
        Check.due("pathWinners()", x.pathWinners(), 4);
    }

    /**
     * Promise 13: "The smallest set of documents, not empty, of which every member beats every document
     * that is not in the set (bit d for document d)."
     */
    private static void topSetOfOne() {
        for (int d = 0; d < 6; d++) {
            RankFusion x = new RankFusion(6);
            Check.rank(x, 2, d);
            Check.due("topSet() when only " + d + " is named", x.topSet(), 1 << d);
            Check.due("pathWinners() when only " + d + " is named", x.pathWinners(), 1 << d);
        }
    }

    /** Promise 13: "every member beats every document that is not in the set" and not only is unbeaten. */
    private static void topSetWithLevelDocuments() {
        RankFusion x = new RankFusion(6);
        Check.rank(x, 5, 5, 1, 0);
        Check.rank(x, 5, 1, 5, 0);
        Check.due("topSet() of two level ones", x.topSet(), 34);
        Check.due("pathWinners() of two level ones", x.pathWinners(), 34);
        RankFusion all = new RankFusion(6);
        Check.rank(all, 5, 0, 1, 2, 3, 4, 5);
        Check.rank(all, 5, 5, 4, 3, 2, 1, 0);
        Check.due("topSet() of all level", all.topSet(), 63);
        Check.due("pathWinners() of all level", all.pathWinners(), 63);
    }

    /** Promise 13: "There is exactly one.", also where a smaller set is beaten by nothing outside it. */
    private static void topSetIsNotTheUnbeaten() {
        // 0 beats 1, and 2 is level with both: nothing less than all beats what is outside it.
        RankFusion x = new RankFusion(3);
        Check.rank(x, 1, 0, 1, 2);
        Check.rank(x, 1, 2, 0, 1);
        Check.due("prefers(0, 1)", x.prefers(0, 1), 2);
        Check.due("prefers(0, 2)", x.prefers(0, 2), 1);
        Check.due("prefers(2, 0)", x.prefers(2, 0), 1);
        Check.due("topSet()", x.topSet(), 7);
        Check.due("pathWinners()", x.pathWinners(), 5);
    }

    /** Promise 14: "The strength of the best path" where the step from a to b is none. */
    private static void strengthOfLongPath() {
        // Six documents in a ring of two steps each: 0 comes to 5 only by way of others.
        RankFusion x = new RankFusion(6);
        Check.rank(x, 1, 0, 1, 2, 3, 4, 5);
        Check.rank(x, 1, 2, 3, 4, 5, 0, 1);
        Check.rank(x, 1, 4, 5, 0, 1, 2, 3);
        Check.due("prefers(0, 4)", x.prefers(0, 4), 1);
        Check.due("prefers(0, 5)", x.prefers(0, 5), 1);
        Check.due("strength(0, 5)", x.strength(0, 5), 2);
        Check.due("strength(1, 0)", x.strength(1, 0), 2);
        Check.due("strength(0, 1)", x.strength(0, 1), 3);
        Check.due("topSet()", x.topSet(), 63);
        Check.due("pathWinners()", x.pathWinners(), 21);
    }

    /** Promise 14: "a path is a list of different documents", which may be all of them. */
    private static void strengthThroughAllDocuments() {
        for (int documents = 2; documents <= 6; documents++) {
            RankFusion x = beatsTheNextOnly(documents);
            int last = documents - 1;
            for (int a = 0; a < last; a++) {
                for (int b = a + 1; b <= last; b++) {
                    String what = "strength(" + a + ", " + b + ") of " + documents + ", step by step";
                    Check.due(what, x.strength(a, b), 2);
                }
                Check.due("prefers(" + a + ", next)", x.prefers(a, a + 1), 2);
            }
            Check.due("prefers(0, last)", x.prefers(0, last), documents == 2 ? 2 : 1);
        }
    }

    /**
     * Each document beats the next one by 2 to 1, and every one after that beats it by 2 to 1. So
     * the only path from a document to one with a greater number goes through all between them.
     */
    private static RankFusion beatsTheNextOnly(int documents) {
        RankFusion x = new RankFusion(documents);
        rankThoseThere(x, documents, 0, 1, 2, 3, 4, 5);
        rankThoseThere(x, documents, 4, 5, 2, 3, 0, 1);
        rankThoseThere(x, documents, 5, 3, 4, 1, 2, 0);
        return x;
    }

    private static void rankThoseThere(RankFusion x, int documents, int... six) {
        Check.rank(x, 1, IntStream.of(six).filter(d -> d < documents).toArray());
    }

    /** Promise 14: "the best path" where there are several: a step, and ways round by 1 or by 3. */
    private static void bestOfSeveralPaths() {
        RankFusion x = new RankFusion(4);
        Check.rank(x, 9, 0, 1, 3, 2);
        Check.rank(x, 4, 2, 0, 1, 3);
        Check.rank(x, 4, 1, 2, 0, 3);
        Check.due("prefers(0, 2), the step", x.prefers(0, 2), 9);
        Check.due("prefers(2, 0), so that 0 beats 2", x.prefers(2, 0), 8);
        Check.due("strength(0, 1)", x.strength(0, 1), 13);
        Check.due("strength(1, 2)", x.strength(1, 2), 13);
        Check.due("strength(0, 3)", x.strength(0, 3), 17);
        Check.due("strength(3, 2)", x.strength(3, 2), 9);
        Check.due("strength(0, 2), by 1", x.strength(0, 2), 13);
        Check.due("strength(2, 0)", x.strength(2, 0), 0);
    }

    /** Promise 14: "in which each one beats the next one" and "0 when there is no path" */
    private static void strengthNeedsBeating() {
        RankFusion x = new RankFusion(3);
        Check.rank(x, 5, 0, 1);
        Check.rank(x, 5, 1, 0);
        Check.due("strength(0, 1) of level ones", x.strength(0, 1), 0);
        Check.due("strength(1, 0) of level ones", x.strength(1, 0), 0);
        Check.due("strength(0, 2)", x.strength(0, 2), 10);
        Check.due("strength(2, 0)", x.strength(2, 0), 0);
        Check.rank(x, 1, 1);
        Check.due("strength(1, 0), the whole preference", x.strength(1, 0), 6);
        Check.due("strength(0, 1), beaten", x.strength(0, 1), 0);
    }

    /** Promise 14: "NONE when a = b, or a or b is no document." */
    private static void strengthRefuses() {
        RankFusion x = Check.ring();
        Bounds.refusesPairs("strength", 4, x::strength);
    }

    /** Promise 15: "strength(a, b) >= strength(b, a)" where the two are equal. */
    private static void pathWinnersByTie() {
        // The ring with equal weights: every path is as strong as its way back.
        RankFusion x = new RankFusion(4);
        Check.rank(x, 2, 0, 1, 2);
        Check.rank(x, 2, 1, 2, 0);
        Check.rank(x, 2, 2, 0, 1);
        Check.due("pathWinners() of an even ring", x.pathWinners(), 7);
        Check.due("topSet() of an even ring", x.topSet(), 7);
    }
}
