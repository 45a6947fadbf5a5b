/** Promises 1 to 5 and 16: making an object and changing its rankings. */
public final class RankingsTest {
    private static final int[] NO_RANKING_OF_TWO = {2, 3, 4, 5, 6, -1, Integer.MIN_VALUE, Integer.MAX_VALUE};

    private RankingsTest() {
    }

    public static void main(String[] args) {
        newObject();
        documentsAreClamped();
        beginCountsUp();
        beginRefuses();
        beginNamesNothing();
        nameTakesTheNextPlace();
        nameRefuses();
        removeMovesDown();
        movedRankingGoesOnWhereItWas();
        removeTheLast();
        removeRefuses();
        removedSlotIsCleanAgain();
        refusedCallsChangeNothing();
        objectsAreApart();
        Check.end();
    }

    /** Promise 1: "No rankings." */
    private static void newObject() {
        RankFusion x = new RankFusion(3);
        Check.due("new rankings()", x.rankings(), 0);
        Check.due("new name(0, 0)", x.name(0, 0), false);
        Check.due("new remove(0)", x.remove(0), false);
        Check.due("new prefers(0, 1)", x.prefers(0, 1), 0);
        Check.due("new least()", x.least(), 0);
        Check.due("new leastWith(2, 0)", x.leastWith(2, 0), 0);
        Check.due("new score(2)", x.score(2), 0);
        Check.due("new champion()", x.champion(), RankFusion.NONE);
        Check.due("new topSet()", x.topSet(), 7);
        Check.due("new strength(1, 0)", x.strength(1, 0), 0);
        Check.due("new pathWinners()", x.pathWinners(), 7);
        for (int k = 0; k < 3; k++) {
            Check.due("new bestAt(" + k + ")", x.bestAt(k), k);
            Check.due("new scoreAt(" + k + ")", x.scoreAt(k), k);
        }
    }

    /**
     * Promise 1: "documents: clamped to 2 .. 6."
     * Terms: "There are documents 0 .. documents - 1."
     */
    private static void documentsAreClamped() {
        int[] wanted = {Integer.MIN_VALUE, -1, 0, 1, 2, 3, 4, 5, 6, 7, 8, 100, Integer.MAX_VALUE};
        int[] kept = {2, 2, 2, 2, 2, 3, 4, 5, 6, 6, 6, 6, 6};
        for (int i = 0; i < wanted.length; i++) {
            String of = " of RankFusion(" + wanted[i] + ")";
            RankFusion x = new RankFusion(wanted[i]);
            int last = kept[i] - 1;
            Check.due("topSet()" + of, x.topSet(), (1 << kept[i]) - 1);
            Check.due("pathWinners()" + of, x.pathWinners(), (1 << kept[i]) - 1);
            Check.due("bestAt(last)" + of, x.bestAt(last), last);
            Check.due("bestAt(last + 1)" + of, x.bestAt(last + 1), RankFusion.NONE);
            Check.due("scoreAt(last)" + of, x.scoreAt(last), last);
            Check.due("scoreAt(last + 1)" + of, x.scoreAt(last + 1), RankFusion.NONE);
            Check.rank(x, 1, last);
            Check.due("name(0, last + 1)" + of, x.name(0, last + 1), false);
            Check.due("score(last)" + of, x.score(last), last);
            Check.due("score(last + 1)" + of, x.score(last + 1), -1000);
        }
    }

    /**
     * Promise 2: "FULL when five are there; otherwise its number, which is the number of rankings
     * there were."
     * Promise 5: "The number of rankings."
     * Terms: "There are at most five RANKINGS 0, 1, .."
     */
    private static void beginCountsUp() {
        RankFusion x = new RankFusion(2);
        for (int k = 0; k < 5; k++) {
            Check.due("rankings()", x.rankings(), k);
            Check.due("begin(" + (k + 1) + ")", x.begin(k + 1), k);
        }
        Check.due("rankings() of five", x.rankings(), 5);
        Check.due("begin(1) as the sixth", x.begin(1), RankFusion.FULL);
        Check.due("begin(9) as the sixth", x.begin(9), RankFusion.FULL);
        Check.due("remove(2)", x.remove(2), true);
        Check.due("begin(9) after remove", x.begin(9), 4);
        Check.due("begin(9) of a full object", x.begin(9), RankFusion.FULL);
    }

    /**
     * Promise 2: "Answers BAD when weight is not 1 .. 9"
     * Promise 16: "begin: BAD is tested before FULL."
     * The public face: the values of the constants.
     */
    private static void beginRefuses() {
        int[] bad = {0, 10, 11, -1, -9, Integer.MIN_VALUE, Integer.MAX_VALUE};
        RankFusion x = new RankFusion(2);
        for (int count = 0; count <= 5; count++) {
            for (int weight : bad) {
                Check.due("begin(" + weight + ") with " + count, x.begin(weight), RankFusion.BAD);
                Check.due("rankings() after BAD", x.rankings(), count);
            }
            if (count < 5) {
                Check.rank(x, 9);
            }
        }
        Check.due("BAD", RankFusion.BAD, -1);
        Check.due("FULL", RankFusion.FULL, -2);
        Check.due("NONE", RankFusion.NONE, -1);
    }

    /**
     * Promise 2: "Begins a new ranking with this weight, naming nothing yet."
     * Terms: "each with a weight (1 .. 9)"
     */
    private static void beginNamesNothing() {
        for (int weight = 1; weight <= 9; weight++) {
            RankFusion x = new RankFusion(3);
            Check.rank(x, weight);
            Check.due("prefers(0, 1) of a ranking that names nothing", x.prefers(0, 1), 0);
            Check.due("prefers(1, 0) of a ranking that names nothing", x.prefers(1, 0), 0);
            Check.due("name(0, 1)", x.name(0, 1), true);
            Check.due("prefers(1, 0) at weight " + weight, x.prefers(1, 0), weight);
        }
    }

    /**
     * Promise 3: "Names document d next (after those named already) in ranking k."
     * Terms: "a list of different documents, best first"
     */
    private static void nameTakesTheNextPlace() {
        RankFusion x = new RankFusion(4);
        Check.rank(x, 1);
        Check.rank(x, 2);
        // The two rankings grow by turns: neither may disturb the other's next place.
        Check.due("name(0, 3)", x.name(0, 3), true);
        Check.due("name(1, 0)", x.name(1, 0), true);
        Check.due("name(1, 3)", x.name(1, 3), true);
        Check.due("name(0, 0)", x.name(0, 0), true);
        Check.due("name(1, 2)", x.name(1, 2), true);
        Check.due("name(0, 1)", x.name(0, 1), true);
        Check.due("prefers(3, 0)", x.prefers(3, 0), 1);
        Check.due("prefers(0, 3)", x.prefers(0, 3), 2);
        Check.due("prefers(0, 1)", x.prefers(0, 1), 3);
        Check.due("prefers(1, 2)", x.prefers(1, 2), 1);
        Check.due("prefers(2, 1)", x.prefers(2, 1), 2);
        Check.due("prefers(3, 2)", x.prefers(3, 2), 3);
    }

    /**
     * Promise 3: "Answers true; false, changing nothing, when there is no ranking k, no document d, or
     * k names d already."
     */
    private static void nameRefuses() {
        RankFusion x = new RankFusion(4);
        Check.rank(x, 1, 2, 0);
        Check.rank(x, 1, 1);
        for (int k : NO_RANKING_OF_TWO) {
            Check.due("name(" + k + ", 3)", x.name(k, 3), false);
        }
        int[] noDocument = {4, 5, 6, 7, -1, -2, 30, Integer.MIN_VALUE, Integer.MAX_VALUE};
        for (int d : noDocument) {
            Check.due("name(0, " + d + ")", x.name(0, d), false);
            Check.due("name(1, " + d + ")", x.name(1, d), false);
        }
        Check.due("name(0, 2) again", x.name(0, 2), false);
        Check.due("name(0, 0) again", x.name(0, 0), false);
        Check.due("name(1, 1) again", x.name(1, 1), false);
        Check.due("prefers(2, 0) still", x.prefers(2, 0), 1);
        Check.due("name(1, 2), named by another", x.name(1, 2), true);
        Check.due("name(0, 1), named by another", x.name(0, 1), true);
        Check.due("name(0, 3), the last", x.name(0, 3), true);
        for (int d = 0; d < 4; d++) {
            Check.due("name(0, " + d + ") when all are named", x.name(0, d), false);
        }
    }

    /** Promise 4: "Takes ranking k away; those with greater numbers move down by one." */
    private static void removeMovesDown() {
        for (int gone = 0; gone < 5; gone++) {
            RankFusion x = new RankFusion(6);
            for (int k = 0; k < 5; k++) {
                Check.rank(x, k + 1, k, 5);
            }
            Check.due("remove(" + gone + ")", x.remove(gone), true);
            Check.due("rankings() after remove", x.rankings(), 4);
            for (int d = 0; d < 5; d++) {
                int want = d == gone ? 0 : d + 1;
                Check.due("prefers(" + d + ", 5) without " + gone, x.prefers(d, 5), want);
            }
            // Each one left still knows, under its new number, whom it names.
            for (int k = 0; k < 4; k++) {
                int own = k < gone ? k : k + 1;
                Check.due("name(" + k + ", own) after remove", x.name(k, own), false);
                Check.due("name(" + k + ", 5) after remove", x.name(k, 5), false);
                Check.due("name(" + k + ", gone) after remove", x.name(k, gone), true);
            }
            Check.due("name(4, 0) after remove", x.name(4, 0), false);
            Check.due("prefers(5, gone), named last by all", x.prefers(5, gone), 14 - gone);
            Check.due("prefers(gone, 5), named last by all", x.prefers(gone, 5), 0);
        }
    }

    /** Promises 3 and 4: "after those named already" holds also for a ranking that has moved down. */
    private static void movedRankingGoesOnWhereItWas() {
        RankFusion x = new RankFusion(5);
        Check.rank(x, 2, 4);
        Check.rank(x, 3, 1, 2, 3);
        Check.due("remove(0)", x.remove(0), true);
        Check.due("name(0, 4)", x.name(0, 4), true);
        Check.due("prefers(3, 4), 4 named after 3", x.prefers(3, 4), 3);
        Check.due("prefers(4, 3), 4 named after 3", x.prefers(4, 3), 0);
        Check.due("prefers(4, 0), 0 not named", x.prefers(4, 0), 3);
    }

    /** Promise 4: "Takes ranking k away" where it is the only one. */
    private static void removeTheLast() {
        RankFusion x = new RankFusion(2);
        Check.rank(x, 7, 1);
        Check.due("remove(0), the only one", x.remove(0), true);
        Check.due("rankings()", x.rankings(), 0);
        Check.due("prefers(1, 0)", x.prefers(1, 0), 0);
        Check.due("remove(0) once more", x.remove(0), false);
        Check.due("rankings()", x.rankings(), 0);
    }

    /** Promise 4: "Answers true; false, changing nothing, when there is no ranking k." */
    private static void removeRefuses() {
        RankFusion x = new RankFusion(3);
        Check.rank(x, 4, 0, 1);
        Check.rank(x, 5, 1, 2);
        for (int k : NO_RANKING_OF_TWO) {
            Check.due("remove(" + k + ")", x.remove(k), false);
            Check.due("rankings() after it", x.rankings(), 2);
            Check.due("prefers(0, 1) after it", x.prefers(0, 1), 4);
            Check.due("prefers(1, 2) after it", x.prefers(1, 2), 9);
        }
    }

    /** Promise 2: "naming nothing yet" where a ranking that named all was taken away. */
    private static void removedSlotIsCleanAgain() {
        RankFusion x = new RankFusion(3);
        Check.rank(x, 4, 2, 1, 0);
        Check.rank(x, 5, 2, 0);
        Check.due("remove(0)", x.remove(0), true);
        Check.rank(x, 3);
        Check.due("prefers(2, 1) before the new one names", x.prefers(2, 1), 5);
        Check.due("name(1, 1)", x.name(1, 1), true);
        Check.due("name(1, 2)", x.name(1, 2), true);
        Check.due("name(1, 0)", x.name(1, 0), true);
        Check.due("prefers(1, 2)", x.prefers(1, 2), 3);
        Check.due("prefers(2, 1)", x.prefers(2, 1), 5);
        Check.due("prefers(2, 0)", x.prefers(2, 0), 8);
    }

    /**
     * Promise 16: "Where nothing else is said, a call that is refused (by a code below 0 that is named,
     * or by false) changes nothing."
     */
    private static void refusedCallsChangeNothing() {
        RankFusion x = Check.ring();
        Check.rank(x, 1, 3);
        Check.rank(x, 1);
        long[] before = everyAnswer(x);
        Check.due("begin(0)", x.begin(0), RankFusion.BAD);
        Check.due("begin(5)", x.begin(5), RankFusion.FULL);
        Check.due("name(5, 0)", x.name(5, 0), false);
        Check.due("name(-1, 0)", x.name(-1, 0), false);
        Check.due("name(4, 4)", x.name(4, 4), false);
        Check.due("name(4, -1)", x.name(4, -1), false);
        Check.due("name(3, 3)", x.name(3, 3), false);
        Check.due("remove(5)", x.remove(5), false);
        Check.due("remove(-1)", x.remove(-1), false);
        Check.due("prefers(4, 0)", x.prefers(4, 0), RankFusion.NONE);
        Check.due("bestAt(-1)", x.bestAt(-1), RankFusion.NONE);
        Check.due("leastWith(2, 2)", x.leastWith(2, 2), RankFusion.NONE);
        Check.due("score(-1)", x.score(-1), -1000);
        Check.due("scoreAt(4)", x.scoreAt(4), RankFusion.NONE);
        Check.due("strength(0, 9)", x.strength(0, 9), RankFusion.NONE);
        long[] after = everyAnswer(x);
        for (int i = 0; i < before.length; i++) {
            Check.due("answer " + i + " after refused calls", after[i], before[i]);
        }
        // The next places must not have moved either.
        Check.due("name(3, 0)", x.name(3, 0), true);
        Check.due("name(3, 1)", x.name(3, 1), true);
        Check.due("prefers(0, 1)", x.prefers(0, 1), 7);
    }

    private static long[] everyAnswer(RankFusion x) {
        long[] answers = new long[24];
        int i = 0;
        for (int a = 0; a < 4; a++) {
            answers[i++] = x.bestAt(a);
            answers[i++] = x.score(a);
            answers[i++] = x.scoreAt(a);
            answers[i++] = x.prefers(a, (a + 1) % 4);
            answers[i++] = x.strength(a, (a + 2) % 4);
        }
        answers[i++] = x.rankings();
        answers[i++] = x.least();
        answers[i++] = x.topSet();
        answers[i] = x.pathWinners();
        return answers;
    }

    /** Promise 1: "No rankings." of a new object, whatever another one has. */
    private static void objectsAreApart() {
        RankFusion x = new RankFusion(3);
        RankFusion y = new RankFusion(3);
        Check.rank(x, 6, 2);
        Check.due("rankings() of the other object", y.rankings(), 0);
        Check.due("prefers(2, 0) of the other object", y.prefers(2, 0), 0);
        Check.due("prefers(2, 0)", x.prefers(2, 0), 6);
    }
}
