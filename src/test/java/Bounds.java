import java.util.LinkedHashMap;
import java.util.Map;
import java.util.function.Consumer;
import java.util.function.IntBinaryOperator;
import java.util.function.IntUnaryOperator;

/** What the tests of the boundary cases share: numbers outside a range, and whole states. */
final class Bounds {
    private static final int[] WEIGHTS = {3, 9, 1, 4, 7};

    private Bounds() {
    }

    /**
     * Numbers that are not first .. last: the nearest on both sides, the least and the greatest
     * int, and such as a narrower type, a shift or an index would take for a number within.
     */
    static int[] outside(int first, int last) {
        return new int[] {
            first - 1, first - 2, last + 1, last + 2,
            Integer.MIN_VALUE, Integer.MIN_VALUE + 1, Integer.MAX_VALUE - 1, Integer.MAX_VALUE,
            first + 32, first + 64, first + 256, first - 256, first + 65536, first + (1 << 30)
        };
    }

    /**
     * An object with this many rankings, each of another weight and length: for six documents,
     * they name six, one, five, none and two. It takes at most 19 calls to make.
     */
    static RankFusion some(int documents, int rankings) {
        return someWithout(documents, rankings, RankFusion.NONE);
    }

    /** The same as if the ranking that is left out had never been there. */
    static RankFusion someWithout(int documents, int rankings, int leftOut) {
        RankFusion x = new RankFusion(documents);
        for (int i = 0; i < rankings; i++) {
            if (i != leftOut) {
                int k = x.begin(WEIGHTS[i]);
                nameSome(x, k, i, documents);
            }
        }
        return x;
    }

    private static void nameSome(RankFusion x, int k, int which, int documents) {
        int[] lengths = {documents, 1, documents - 1, 0, 2};
        int step = which % 2 == 0 ? 1 : documents - 1;
        for (int i = 0; i < lengths[which]; i++) {
            x.name(k, (which + 1 + i * step) % documents);
        }
    }

    /** Five rankings of weight 9 that name nothing. */
    static RankFusion namingNothing(int documents) {
        RankFusion x = new RankFusion(documents);
        for (int k = 0; k < 5; k++) {
            x.begin(9);
        }
        return x;
    }

    /**
     * The rankings 0 1 2 .., 1 2 .. 0 and so on, one for each of 3 to 5 documents and of weight 1:
     * each document beats the next one, the last one beats 0, and all of them are alike.
     */
    static RankFusion evenRing(int documents) {
        RankFusion x = new RankFusion(documents);
        for (int k = 0; k < documents; k++) {
            x.begin(1);
            for (int i = 0; i < documents; i++) {
                x.name(k, (k + i) % documents);
            }
        }
        return x;
    }

    /** All that an object can be asked, within 113 calls. */
    static Map<String, Integer> askAll(RankFusion x, int documents) {
        Map<String, Integer> told = new LinkedHashMap<>();
        told.put("rankings()", x.rankings());
        told.put("least()", x.least());
        told.put("champion()", x.champion());
        told.put("topSet()", x.topSet());
        told.put("pathWinners()", x.pathWinners());
        for (int d = 0; d < documents; d++) {
            told.put("bestAt(" + d + ")", x.bestAt(d));
            told.put("score(" + d + ")", x.score(d));
            told.put("scoreAt(" + d + ")", x.scoreAt(d));
        }
        askPairs(told, "prefers", documents, x::prefers);
        askPairs(told, "leastWith", documents, x::leastWith);
        askPairs(told, "strength", documents, x::strength);
        return told;
    }

    private static void askPairs(Map<String, Integer> told, String call, int documents, IntBinaryOperator question) {
        for (int a = 0; a < documents; a++) {
            for (int b = 0; b < documents; b++) {
                if (a != b) {
                    told.put(call + "(" + a + ", " + b + ")", question.applyAsInt(a, b));
                }
            }
        }
    }

    /**
     * Names in each ranking what it does not name yet, then takes the rankings away one by one and
     * tells what is preferred before each. That shows which document each ranking named, in which
     * place, and its weight; the object is empty afterwards. Within 186 calls.
     */
    static Map<String, Integer> takeApart(RankFusion x, int documents) {
        Map<String, Integer> told = new LinkedHashMap<>();
        int rankings = x.rankings();
        for (int k = 0; k < rankings; k++) {
            for (int d = documents - 1; d >= 0; d--) {
                told.put("name(" + k + ", " + d + ")", x.name(k, d) ? 1 : 0);
            }
        }
        for (int k = 0; k < rankings; k++) {
            askPairs(told, "after remove(0) " + k + " times prefers", documents, x::prefers);
            told.put("remove(0) after " + k + " times", x.remove(0) ? 1 : 0);
        }
        return told;
    }

    static void same(String what, Map<String, Integer> got, Map<String, Integer> want) {
        Check.due(what + ": number of answers", got.size(), want.size());
        for (Map.Entry<String, Integer> entry : want.entrySet()) {
            Integer answer = got.get(entry.getKey());
            Check.due(what + ": " + entry.getKey(), answer == null ? Long.MIN_VALUE : answer, entry.getValue());
        }
    }

    /** The object x must be in the same state as the object y; both are empty afterwards. */
    static void sameState(String what, RankFusion x, RankFusion y, int documents) {
        same(what, askAll(x, documents), askAll(y, documents));
        same(what, takeApart(x, documents), takeApart(y, documents));
    }

    /** An object of some(documents, rankings) must be the same after the calls as without them. */
    static void changesNothing(String calls, int documents, int rankings, Consumer<RankFusion> refused) {
        RankFusion x = some(documents, rankings);
        refused.accept(x);
        sameState("after " + calls, x, some(documents, rankings), documents);
    }

    /** A question with a number must answer this for every number but 0 .. documents - 1. */
    static void refusesOutside(String call, int documents, int answer, IntUnaryOperator question) {
        for (int no : outside(0, documents - 1)) {
            Check.due(call + "(" + no + ") of " + documents, question.applyAsInt(no), answer);
        }
    }

    /**
     * A question about two documents must answer NONE where they are the same or one is none, and
     * something else for the least and greatest that are two documents. Within 372 calls.
     */
    static void refusesPairs(String call, int documents, IntBinaryOperator question) {
        int last = documents - 1;
        int[] none = outside(0, last);
        for (int d = 0; d <= last; d++) {
            due(call, d, d, documents, question, true);
            for (int no : none) {
                due(call, d, no, documents, question, true);
                due(call, no, d, documents, question, true);
            }
        }
        for (int no : none) {
            for (int other : none) {
                due(call, no, other, documents, question, true);
            }
        }
        due(call, 0, last, documents, question, false);
        due(call, last, 0, documents, question, false);
    }

    private static void due(String call, int a, int b, int documents, IntBinaryOperator question, boolean refused) {
        String what = call + "(" + a + ", " + b + ") of " + documents + " is NONE";
        Check.due(what, question.applyAsInt(a, b) == RankFusion.NONE, refused);
    }
}
