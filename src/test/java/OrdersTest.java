/** Promises 7, 8 and 9: least, bestAt and leastWith. */
public final class OrdersTest {
    private OrdersTest() {
    }

    public static void main(String[] args) {
        ordersOfTheRing();
        orderOfOneRanking();
        greatestDistance();
        farthestLeast();
        farthestLeastWith();
        orderHoldsEveryDocumentOnce();
        leastOfSeveralBestOrders();
        bestOrderIsNotTheScoreOrder();
        bestAtRefuses();
        leastWithRefuses();
        queriesLeaveNoTrace();
        Check.end();
    }

    private static void dueOrder(String what, RankFusion x, int... order) {
        for (int k = 0; k < order.length; k++) {
            Check.due(what + ": bestAt(" + k + ")", x.bestAt(k), order[k]);
        }
    }

    /**
     * Terms: "An ORDER is a list of all documents, each once." and "Its DISTANCE is the sum of
     * prefers(b, a) over all pairs of documents a, b of which a comes before b in it."
     * Promise 7: "The least distance of an order."
     * Promise 9: "The least distance of an order in which a comes before b"
     */
    private static void ordersOfTheRing() {
        RankFusion x = Check.ring();
        // 2 0 1 costs prefers(0, 2) + prefers(1, 2) + prefers(1, 0) = 2 + 5 + 3.
        Check.due("least()", x.least(), 10);
        dueOrder("ring", x, 2, 0, 1, 3);
        Check.due("leastWith(2, 0)", x.leastWith(2, 0), 10);
        // 1 2 0 costs prefers(2, 1) + prefers(0, 1) + prefers(0, 2) = 4 + 6 + 2.
        Check.due("leastWith(1, 2)", x.leastWith(1, 2), 12);
        Check.due("leastWith(1, 0)", x.leastWith(1, 0), 12);
        // 0 1 2 costs prefers(1, 0) + prefers(2, 0) + prefers(2, 1) = 3 + 7 + 4.
        Check.due("leastWith(0, 2)", x.leastWith(0, 2), 14);
        Check.due("leastWith(3, 1)", x.leastWith(3, 1), 19);
        // 0 1 3 2 turns only the pair 2, 3 beside what 0 1 2 costs; 3 2 0 1 turns three pairs.
        Check.due("leastWith(3, 2)", x.leastWith(3, 2), 14 + 9);
    }

    /**
     * Promise 8: "The document at place k (0 the first) of the BEST ORDER: of the orders with the least
     * distance, the least in the dictionary order."
     */
    private static void orderOfOneRanking() {
        RankFusion x = new RankFusion(6);
        Check.rank(x, 3, 4, 0, 5);
        Check.due("least() of one ranking", x.least(), 0);
        dueOrder("one ranking", x, 4, 0, 5, 1, 2, 3);
        Check.due("leastWith(3, 1), both unnamed", x.leastWith(3, 1), 0);
        Check.due("leastWith(0, 4)", x.leastWith(0, 4), 3);
        Check.due("leastWith(5, 4)", x.leastWith(5, 4), 6);
        Check.due("leastWith(1, 4)", x.leastWith(1, 4), 9);
    }

    /** Promises 7 and 9: "The least distance of an order" where it is great. */
    private static void greatestDistance() {
        RankFusion x = new RankFusion(6);
        for (int k = 0; k < 5; k++) {
            Check.rank(x, 9, 5, 4, 3, 2, 1, 0);
        }
        Check.due("least() of five alike", x.least(), 0);
        dueOrder("five alike", x, 5, 4, 3, 2, 1, 0);
        // Of each document between them, at least one of its two pairs with them is turned as well.
        Check.due("leastWith(0, 5)", x.leastWith(0, 5), 5 * 45);
        Check.due("leastWith(5, 0)", x.leastWith(5, 0), 0);
        for (int k = 4; k >= 3; k--) {
            Check.due("remove(" + k + ")", x.remove(k), true);
        }
        Check.rank(x, 9, 0, 1, 2, 3, 4, 5);
        Check.rank(x, 9, 0, 1, 2, 3, 4, 5);
        Check.due("least() of three against two", x.least(), 15 * 18);
        Check.due("leastWith(0, 5) of three against two", x.leastWith(0, 5), 15 * 18 + 5 * 9);
    }

    /** Promise 7 with rings among six documents: a search found no rankings with a greater answer. */
    private static void farthestLeast() {
        RankFusion x = new RankFusion(6);
        Check.rank(x, 9, 3, 0, 4, 5, 1, 2);
        Check.rank(x, 9, 1, 4, 3, 2, 5, 0);
        Check.rank(x, 9, 2, 5, 1, 4, 0, 3);
        Check.rank(x, 9, 3, 0, 4, 2, 1, 5);
        Check.rank(x, 9, 5, 0, 2, 1, 4, 3);
        Check.due("least(), the greatest found", x.least(), 306);
    }

    /** Promise 9 in the same way. */
    private static void farthestLeastWith() {
        RankFusion x = new RankFusion(6);
        Check.rank(x, 9, 3, 5, 4, 0, 1, 2);
        Check.rank(x, 9, 1, 2, 4, 5, 3, 0);
        Check.rank(x, 9, 5, 3, 0, 4, 1, 2);
        Check.rank(x, 9, 4, 5, 2, 1, 3, 0);
        Check.rank(x, 9, 2, 1, 5, 0, 3, 4);
        Check.due("leastWith(0, 5), the greatest found", x.leastWith(0, 5), 342);
    }

    /** Terms: "An ORDER is a list of all documents, each once.", and its distance is the least one. */
    private static void orderHoldsEveryDocumentOnce() {
        for (int documents = 2; documents <= 6; documents++) {
            for (int rankings = 0; rankings <= 5; rankings++) {
                RankFusion x = Bounds.some(documents, rankings);
                int seen = 0;
                int distance = 0;
                for (int k = 0; k < documents; k++) {
                    seen |= 1 << x.bestAt(k);
                    for (int before = 0; before < k; before++) {
                        distance += x.prefers(x.bestAt(k), x.bestAt(before));
                    }
                }
                String what = documents + " documents, " + rankings + " rankings";
                Check.due("all places of the best order, " + what, seen, (1 << documents) - 1);
                Check.due("distance of the best order, " + what, distance, x.least());
            }
        }
    }

    /** Promise 8: "of the orders with the least distance, the least in the dictionary order." */
    private static void leastOfSeveralBestOrders() {
        RankFusion x = new RankFusion(5);
        Check.rank(x, 6, 4, 3, 2, 1, 0);
        Check.rank(x, 6, 0, 1, 2, 3, 4);
        Check.due("least() when all are level", x.least(), 60);
        dueOrder("all level", x, 0, 1, 2, 3, 4);
        Check.due("leastWith(4, 0) when all are level", x.leastWith(4, 0), 60);
        Check.rank(x, 1, 3);
        dueOrder("3 first, the others level", x, 3, 0, 1, 2, 4);
        // 4 over 1 alone is asked; 0 goes first all the same, and 2 before 4.
        RankFusion y = new RankFusion(5);
        Check.rank(y, 1, 4, 1, 0, 2, 3);
        Check.rank(y, 1, 3, 2, 0, 4, 1);
        dueOrder("4 over 1", y, 0, 2, 3, 4, 1);
    }

    /** Promises 8 and 11: the two orders are not the same. */
    private static void bestOrderIsNotTheScoreOrder() {
        RankFusion x = new RankFusion(3);
        Check.rank(x, 3, 0, 1, 2);
        Check.rank(x, 2, 1, 2, 0);
        Check.due("scoreAt(0)", x.scoreAt(0), 1);
        Check.due("bestAt(0)", x.bestAt(0), 0);
        Check.due("bestAt(1)", x.bestAt(1), 1);
        Check.due("least()", x.least(), 4);
    }

    /** Promise 8: "NONE when k is not 0 .. documents - 1." */
    private static void bestAtRefuses() {
        RankFusion x = Check.ring();
        int[] noPlace = {4, 5, 6, 64, -1, Integer.MIN_VALUE, Integer.MAX_VALUE};
        for (int k : noPlace) {
            Check.due("bestAt(" + k + ")", x.bestAt(k), RankFusion.NONE);
        }
    }

    /** Promise 9: "NONE when a = b, or a or b is no document." */
    private static void leastWithRefuses() {
        RankFusion x = Check.ring();
        Bounds.refusesPairs("leastWith", 4, x::leastWith);
    }

    /** Promises 7 to 9: what one of these questions finds is not what the next one answers. */
    private static void queriesLeaveNoTrace() {
        RankFusion x = Check.ring();
        Check.due("leastWith(3, 2)", x.leastWith(3, 2), 23);
        Check.due("least() after leastWith", x.least(), 10);
        Check.due("leastWith(3, 2) again", x.leastWith(3, 2), 23);
        Check.due("bestAt(0) after leastWith", x.bestAt(0), 2);
        Check.due("bestAt(3) after leastWith", x.bestAt(3), 3);
    }
}
