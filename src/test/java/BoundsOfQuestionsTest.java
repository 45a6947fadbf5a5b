import java.util.function.IntUnaryOperator;
import java.util.stream.IntStream;

/**
 * The boundary cases of promises 6 to 15 and of the terms: above each test stands the sentence of
 * the document that it is for.
 */
public final class BoundsOfQuestionsTest {
    /** What stands at a place of an order: RankFusion::bestAt or RankFusion::scoreAt. */
    private interface Places {
        int at(RankFusion x, int k);
    }

    private BoundsOfQuestionsTest() {
    }

    public static void main(String[] args) {
        needNotNameAllDocuments();
        aboveWhatIsNotNamed();
        prefersOfNoPair();
        leastWithOfNoPair();
        strengthOfNoPair();
        noPath();
        leastWithNothingNamed();
        leastAtItsEnds();
        leastWithAtItsEnds();
        leastInTheDictionaryOrder();
        bestAtOfNoPlace();
        scoreOfNoDocument();
        scoreAtItsEnds();
        equalScoresByNumbers();
        scoreAtOfNoPlace();
        noChampion();
        championByOne();
        onlyTheSetOfAll();
        topSetOfEachSize();
        smallestNotTheFirstFound();
        pathWinnersWithNothingNamed();
        pathWinnersByEqualStrength();
        notAPathWinnerByOne();
        Check.end();
    }

    /** "need not name all documents": a ranking of each length, from none to all. */
    private static void needNotNameAllDocuments() {
        for (int documents = 2; documents <= 6; documents++) {
            for (int length = 0; length <= documents; length++) {
                RankFusion x = new RankFusion(documents);
                x.begin(9);
                for (int d = 0; d < length; d++) {
                    Check.due("name(0, " + d + ") of " + documents, x.name(0, d), true);
                }
                dueFirstNamed(x, documents, length);
            }
        }
    }

    /** The one ranking, of weight 9, names 0 .. length - 1. */
    private static void dueFirstNamed(RankFusion x, int documents, int length) {
        for (int a = 0; a < documents; a++) {
            for (int b = 0; b < documents; b++) {
                if (a != b) {
                    int due = a < length && a < b ? 9 : 0;
                    String what = "prefers(" + a + ", " + b + ") with " + length + " of " + documents + " named";
                    Check.due(what, x.prefers(a, b), due);
                }
            }
        }
        Check.due("least() with " + length + " named", x.least(), 0);
    }

    /** A ranking puts a above b also where it "does not name b". */
    private static void aboveWhatIsNotNamed() {
        for (int documents = 2; documents <= 6; documents++) {
            int last = documents - 1;
            RankFusion x = new RankFusion(documents);
            Check.rank(x, 4, last);
            Check.due("prefers(last, 0), 0 not named", x.prefers(last, 0), 4);
            Check.due("prefers(0, last), 0 not named", x.prefers(0, last), 0);
            Check.rank(x, 3, 0);
            Check.due("prefers(0, last), each named alone", x.prefers(0, last), 3);
            Check.due("prefers(last, 0), each named alone", x.prefers(last, 0), 4);
            // Naming it after the other one changes nothing between the two.
            Check.due("name(0, 0)", x.name(0, 0), true);
            Check.due("prefers(last, 0), 0 named after it", x.prefers(last, 0), 4);
            Check.due("prefers(0, last), 0 named after it", x.prefers(0, last), 3);
        }
        RankFusion y = new RankFusion(6);
        Check.rank(y, 9, 0);
        Check.due("prefers(4, 5), neither named", y.prefers(4, 5), 0);
        Check.due("prefers(5, 4), neither named", y.prefers(5, 4), 0);
    }

    /** Promise 6: "NONE when a = b, or a or b is no document." */
    private static void prefersOfNoPair() {
        for (int documents = 2; documents <= 6; documents++) {
            Bounds.refusesPairs("with no rankings: prefers", documents, new RankFusion(documents)::prefers);
            Bounds.refusesPairs("with five: prefers", documents, Bounds.some(documents, 5)::prefers);
        }
    }

    /** Promise 9: "NONE when a = b, or a or b is no document." */
    private static void leastWithOfNoPair() {
        for (int documents = 2; documents <= 6; documents++) {
            Bounds.refusesPairs("with no rankings: leastWith", documents, new RankFusion(documents)::leastWith);
            Bounds.refusesPairs("with five: leastWith", documents, Bounds.some(documents, 5)::leastWith);
        }
    }

    /** Promise 14: "NONE when a = b, or a or b is no document." */
    private static void strengthOfNoPair() {
        for (int documents = 2; documents <= 6; documents++) {
            Bounds.refusesPairs("with no rankings: strength", documents, new RankFusion(documents)::strength);
            Bounds.refusesPairs("with five: strength", documents, Bounds.some(documents, 5)::strength);
        }
        Check.due("NONE", RankFusion.NONE, -1);
    }

    /** Promise 14: "0 when there is no path" */
    private static void noPath() {
        for (int documents = 2; documents <= 6; documents++) {
            int last = documents - 1;
            dueNoPaths("with no rankings", new RankFusion(documents), documents);
            dueNoPaths("with nothing named", Bounds.namingNothing(documents), documents);
            dueNoPaths("with all level", level(documents, 9), documents);
            // One way there is a path, back there is none.
            RankFusion x = new RankFusion(documents);
            Check.rank(x, 1, last);
            Check.due("strength(last, 0) of " + documents, x.strength(last, 0), 1);
            Check.due("strength(0, last) of " + documents, x.strength(0, last), 0);
        }
        // 0 beats 1 and 2 beats 3, but no step leads from 0 and 1 to 2 and 3 or back.
        RankFusion y = new RankFusion(4);
        Check.rank(y, 2, 0, 1, 2, 3);
        Check.rank(y, 2, 2, 3, 0, 1);
        Check.due("strength(0, 1)", y.strength(0, 1), 4);
        Check.due("strength(0, 2)", y.strength(0, 2), 0);
        Check.due("strength(0, 3)", y.strength(0, 3), 0);
        Check.due("strength(3, 1)", y.strength(3, 1), 0);
        Check.due("strength(3, 2)", y.strength(3, 2), 0);
    }

    private static void dueNoPaths(String what, RankFusion x, int documents) {
        for (int a = 0; a < documents; a++) {
            for (int b = 0; b < documents; b++) {
                if (a != b) {
                    Check.due(what + ": strength(" + a + ", " + b + ") of " + documents, x.strength(a, b), 0);
                }
            }
        }
    }

    /** Two rankings of this weight, the second the first turned round: no document beats another. */
    private static RankFusion level(int documents, int weight) {
        RankFusion x = new RankFusion(documents);
        x.begin(weight);
        x.begin(weight);
        for (int d = 0; d < documents; d++) {
            x.name(0, d);
            x.name(1, documents - 1 - d);
        }
        return x;
    }

    /** "The least distance of an order.", with no rankings and with rankings that name nothing. */
    private static void leastWithNothingNamed() {
        for (int documents = 2; documents <= 6; documents++) {
            int last = documents - 1;
            RankFusion x = new RankFusion(documents);
            Check.due("least() with no rankings", x.least(), 0);
            Check.due("leastWith(last, 0) with no rankings", x.leastWith(last, 0), 0);
            RankFusion y = Bounds.namingNothing(documents);
            Check.due("least() with nothing named", y.least(), 0);
            Check.due("leastWith(last, 0) with nothing named", y.leastWith(last, 0), 0);
            RankFusion z = Bounds.some(documents, 5);
            for (int k = 4; k >= 0; k--) {
                Check.due("remove(" + k + ")", z.remove(k), true);
            }
            Check.due("least() with all taken away", z.least(), 0);
        }
    }

    /** "The least distance of an order." where every order is far, and with the least step. */
    private static void leastAtItsEnds() {
        for (int documents = 2; documents <= 6; documents++) {
            int pairs = documents * (documents - 1) / 2;
            RankFusion x = level(documents, 9);
            Check.due("least() of two level", x.least(), 9 * pairs);
            Check.rank(x, 9);
            x.begin(9);
            x.begin(9);
            for (int d = 0; d < documents; d++) {
                x.name(3, d);
                x.name(4, documents - 1 - d);
            }
            Check.due("least() of four level and one that names nothing", x.least(), 18 * pairs);
            for (int d = 0; d < documents; d++) {
                x.name(2, d);
            }
            Check.due("least() of three against two", x.least(), 18 * pairs);
        }
        RankFusion y = new RankFusion(2);
        Check.rank(y, 1, 0);
        Check.due("least() of one ranking", y.least(), 0);
        Check.rank(y, 9, 1);
        Check.due("least() of 1 against 9", y.least(), 1);
        Check.rank(y, 9, 0);
        Check.due("least() of 10 against 9", y.least(), 9);
    }

    /** Promise 9: "The least distance of an order in which a comes before b", as far as it can be. */
    private static void leastWithAtItsEnds() {
        for (int documents = 2; documents <= 6; documents++) {
            int last = documents - 1;
            RankFusion x = new RankFusion(documents);
            for (int k = 0; k < 5; k++) {
                x.begin(9);
                x.name(k, last);
            }
            // All that is asked for is that last is first; each document before it costs 45.
            Check.due("leastWith(last, 0)", x.leastWith(last, 0), 0);
            Check.due("leastWith(0, last)", x.leastWith(0, last), 45);
            for (int k = 0; k < 5; k++) {
                for (int d = last - 1; d >= 0; d--) {
                    x.name(k, d);
                }
            }
            // Each document between the two is wrong with one of them at least.
            Check.due("leastWith(0, last), five alike", x.leastWith(0, last), 45 * last);
            Check.due("leastWith(last, 0), five alike", x.leastWith(last, 0), 0);
        }
    }

    /** "of the orders with the least distance, the least in the dictionary order." */
    private static void leastInTheDictionaryOrder() {
        dueByNumbers("bestAt", RankFusion::bestAt);
        // Of the orders 0 1 2, 1 2 0 and 2 0 1, each at distance 4, the first.
        RankFusion ring = Bounds.evenRing(3);
        Check.due("least() of the ring of three", ring.least(), 4);
        dueOrder("ring of three: bestAt", ring, RankFusion::bestAt, 0, 1, 2);
        RankFusion turned = new RankFusion(3);
        Check.rank(turned, 1, 2, 1, 0);
        Check.rank(turned, 1, 1, 0, 2);
        Check.rank(turned, 1, 0, 2, 1);
        dueOrder("ring of three, turned: bestAt", turned, RankFusion::bestAt, 0, 2, 1);
    }

    /** Documents that nothing sets apart stand by their numbers; a weight of 1 sets them apart. */
    private static void dueByNumbers(String call, Places places) {
        for (int documents = 2; documents <= 6; documents++) {
            int[] numbers = IntStream.range(0, documents).toArray();
            dueOrder("with no rankings: " + call, new RankFusion(documents), places, numbers);
            dueOrder("with nothing named: " + call, Bounds.namingNothing(documents), places, numbers);
            RankFusion x = level(documents, 9);
            dueOrder("with all level: " + call, x, places, numbers);
            int last = documents - 1;
            Check.rank(x, 1, last);
            int[] lastFirst = IntStream.range(0, documents).map(k -> k == 0 ? last : k - 1).toArray();
            dueOrder("with the last named once more: " + call, x, places, lastFirst);
        }
    }

    private static void dueOrder(String call, RankFusion x, Places places, int... order) {
        for (int k = 0; k < order.length; k++) {
            Check.due(call + "(" + k + ") of " + order.length, places.at(x, k), order[k]);
        }
    }

    /** Promise 8: "NONE when k is not 0 .. documents - 1." */
    private static void bestAtOfNoPlace() {
        for (int documents = 2; documents <= 6; documents++) {
            duePlaces("with no rankings: bestAt", documents, new RankFusion(documents)::bestAt);
            duePlaces("with five: bestAt", documents, Bounds.some(documents, 5)::bestAt);
        }
    }

    /** At the places 0 .. documents - 1 stand all the documents, at no other place does one. */
    private static void duePlaces(String call, int documents, IntUnaryOperator question) {
        Bounds.refusesOutside(call, documents, RankFusion.NONE, question);
        int seen = 0;
        for (int k = 0; k < documents; k++) {
            seen |= 1 << question.applyAsInt(k);
        }
        Check.due(call + " of all places of " + documents, seen, (1 << documents) - 1);
    }

    /** "-1000 when d is no document." */
    private static void scoreOfNoDocument() {
        for (int documents = 2; documents <= 6; documents++) {
            Bounds.refusesOutside("with no rankings: score", documents, -1000, new RankFusion(documents)::score);
            RankFusion x = Bounds.some(documents, 5);
            Bounds.refusesOutside("with five: score", documents, -1000, x::score);
            int sum = 0;
            for (int d = 0; d < documents; d++) {
                sum += x.score(d);
            }
            Check.due("the sum of all scores", sum, 0);
        }
    }

    /** Promise 10: the greatest and the least score, and the least step from 0. */
    private static void scoreAtItsEnds() {
        for (int documents = 2; documents <= 6; documents++) {
            int last = documents - 1;
            RankFusion x = new RankFusion(documents);
            Check.rank(x, 1, 0);
            Check.due("score(0) at weight 1", x.score(0), last);
            Check.due("score(last) at weight 1", x.score(last), -1);
            RankFusion y = new RankFusion(documents);
            for (int k = 0; k < 5; k++) {
                y.begin(9);
                for (int d = last; d >= 0; d--) {
                    y.name(k, d);
                }
            }
            Check.due("score(last), the greatest", y.score(last), 45 * last);
            Check.due("score(0), the least", y.score(0), -45 * last);
            Check.due("scoreAt(0)", y.scoreAt(0), last);
            Check.due("scoreAt(last)", y.scoreAt(last), 0);
        }
    }

    /** "equal ones by their numbers." */
    private static void equalScoresByNumbers() {
        dueByNumbers("scoreAt", RankFusion::scoreAt);
        RankFusion x = new RankFusion(6);
        Check.rank(x, 1, 5, 3);
        Check.rank(x, 1, 3, 5);
        dueOrder("3 and 5 equal: scoreAt", x, RankFusion::scoreAt, 3, 5, 0, 1, 2, 4);
    }

    /** Promise 11: "NONE when k is not 0 .. documents - 1." */
    private static void scoreAtOfNoPlace() {
        for (int documents = 2; documents <= 6; documents++) {
            duePlaces("with no rankings: scoreAt", documents, new RankFusion(documents)::scoreAt);
            duePlaces("with five: scoreAt", documents, Bounds.some(documents, 5)::scoreAt);
        }
    }

    /** "NONE when there is none." */
    private static void noChampion() {
        int none = RankFusion.NONE;
        for (int documents = 2; documents <= 6; documents++) {
            Check.due("champion() with no rankings", new RankFusion(documents).champion(), none);
            Check.due("champion() with nothing named", Bounds.namingNothing(documents).champion(), none);
            Check.due("champion() with all level", level(documents, 9).champion(), none);
            // Two that are level beat all others, and neither beats the other.
            RankFusion x = new RankFusion(documents);
            Check.rank(x, 7, 0, documents - 1);
            Check.rank(x, 7, documents - 1, 0);
            Check.due("champion() of two level ones, " + documents, x.champion(), none);
        }
        for (int documents = 3; documents <= 5; documents++) {
            Check.due("champion() of a ring of " + documents, Bounds.evenRing(documents).champion(), none);
        }
        // 0 beats all but 5, and 5 beats 0 alone.
        RankFusion y = new RankFusion(6);
        Check.rank(y, 4, 0, 1, 2, 3, 4, 5);
        Check.rank(y, 3, 5, 0, 1, 2, 3, 4);
        Check.rank(y, 2, 1, 2, 3, 4, 5, 0);
        Check.due("prefers(5, 0)", y.prefers(5, 0), 5);
        Check.due("prefers(0, 5)", y.prefers(0, 5), 4);
        Check.due("prefers(0, 1)", y.prefers(0, 1), 7);
        Check.due("champion(), beaten by one alone", y.champion(), none);
    }

    /** Promise 12, next to "there is none": each document is the champion where it beats all by one. */
    private static void championByOne() {
        for (int documents = 2; documents <= 6; documents++) {
            for (int d = 0; d < documents; d++) {
                RankFusion x = level(documents, 9);
                Check.rank(x, 1, d);
                Check.due("champion(), " + d + " of " + documents + " by one", x.champion(), d);
                Check.due("remove(2)", x.remove(2), true);
                Check.due("champion(), all level again", x.champion(), RankFusion.NONE);
            }
        }
    }

    /** "The smallest set of documents, not empty", where only the set of all is such a set. */
    private static void onlyTheSetOfAll() {
        for (int documents = 2; documents <= 6; documents++) {
            int all = (1 << documents) - 1;
            Check.due("topSet() with no rankings", new RankFusion(documents).topSet(), all);
            Check.due("topSet() with nothing named", Bounds.namingNothing(documents).topSet(), all);
            Check.due("topSet() with all level", level(documents, 9).topSet(), all);
        }
        for (int documents = 3; documents <= 5; documents++) {
            Check.due("topSet() of a ring", Bounds.evenRing(documents).topSet(), (1 << documents) - 1);
        }
        RankFusion six = new RankFusion(6);
        Check.rank(six, 1, 0, 1, 2, 3, 4, 5);
        Check.rank(six, 1, 2, 3, 4, 5, 0, 1);
        Check.rank(six, 1, 4, 5, 0, 1, 2, 3);
        Check.due("topSet() of a ring of six", six.topSet(), 63);
    }

    /** "The smallest set of documents, not empty": every set but the empty one, named level. */
    private static void topSetOfEachSize() {
        for (int documents = 2; documents <= 6; documents++) {
            for (int set = 1; set < 1 << documents; set++) {
                RankFusion x = new RankFusion(documents);
                x.begin(1);
                x.begin(1);
                for (int d = 0; d < documents; d++) {
                    nameMember(x, 0, set, d);
                    nameMember(x, 1, set, documents - 1 - d);
                }
                Check.due("topSet(), set " + set + " of " + documents, x.topSet(), set);
            }
        }
    }

    private static void nameMember(RankFusion x, int k, int set, int d) {
        if ((set & 1 << d) != 0) {
            x.name(k, d);
        }
    }

    /** "The smallest set": of several sets one within the other, up or down by number. */
    private static void smallestNotTheFirstFound() {
        RankFusion up = new RankFusion(6);
        Check.rank(up, 1, 0, 1, 2, 3, 4, 5);
        Check.due("topSet() of 0 1 2 3 4 5", up.topSet(), 1);
        RankFusion down = new RankFusion(6);
        Check.rank(down, 1, 5, 4, 3, 2, 1, 0);
        Check.due("topSet() of 5 4 3 2 1 0", down.topSet(), 32);
        // 5 and 4 are level, then 0, then the others: 48 is within 49.
        RankFusion two = new RankFusion(6);
        Check.rank(two, 1, 5, 4, 0);
        Check.rank(two, 1, 4, 5, 0);
        Check.due("topSet() of 4 and 5, then 0", two.topSet(), 48);
    }

    /** Promise 15: "for every other document b", also with no rankings. */
    private static void pathWinnersWithNothingNamed() {
        for (int documents = 2; documents <= 6; documents++) {
            int all = (1 << documents) - 1;
            Check.due("pathWinners() with no rankings", new RankFusion(documents).pathWinners(), all);
            Check.due("pathWinners() with nothing named", Bounds.namingNothing(documents).pathWinners(), all);
            Check.due("pathWinners() with all level", level(documents, 9).pathWinners(), all);
        }
    }

    /** Promise 15: "strength(a, b) >= strength(b, a)", where the two are equal and not 0. */
    private static void pathWinnersByEqualStrength() {
        for (int documents = 3; documents <= 5; documents++) {
            RankFusion x = Bounds.evenRing(documents);
            Check.due("strength(0, last) of a ring", x.strength(0, documents - 1), documents - 1);
            Check.due("strength(last, 0) of a ring", x.strength(documents - 1, 0), documents - 1);
            Check.due("pathWinners() of a ring", x.pathWinners(), (1 << documents) - 1);
        }
    }

    /** Promise 15: a document that is below one other alone, and by one, is left out. */
    private static void notAPathWinnerByOne() {
        for (int documents = 2; documents <= 6; documents++) {
            for (int d = 0; d < documents; d++) {
                RankFusion x = level(documents, 9);
                Check.rank(x, 1, d);
                Check.due("pathWinners(), " + d + " of " + documents + " by one", x.pathWinners(), 1 << d);
            }
        }
        // The ring 0 1 2 with steps of 6, 5 and 5: 0 to 1 is stronger than back, 2 is level with both.
        RankFusion y = new RankFusion(3);
        Check.rank(y, 3, 0, 1, 2);
        Check.rank(y, 2, 1, 2, 0);
        Check.rank(y, 3, 2, 0, 1);
        Check.due("strength(0, 1)", y.strength(0, 1), 6);
        Check.due("strength(1, 2)", y.strength(1, 2), 5);
        Check.due("strength(2, 0)", y.strength(2, 0), 5);
        Check.due("strength(1, 0)", y.strength(1, 0), 5);
        Check.due("strength(0, 2)", y.strength(0, 2), 5);
        Check.due("strength(2, 1)", y.strength(2, 1), 5);
        Check.due("pathWinners(), 1 below 0 alone", y.pathWinners(), 5);
    }
}
