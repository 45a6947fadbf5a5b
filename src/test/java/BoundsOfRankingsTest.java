import java.util.function.Consumer;
import java.util.function.ToIntFunction;

/**
 * The boundary cases of promises 1 to 5 and 16 and of the object's 512 calls: above each test
 * stands the sentence of the document that it is for.
 */
public final class BoundsOfRankingsTest {
    private static final int CALLS = 512;
    // Three times begin with rankings() before it, and twelve times name.
    private static final int CALLS_OF_RING = 18;

    private BoundsOfRankingsTest() {
    }

    public static void main(String[] args) {
        newObjectHasNoRankings();
        documentsAreClamped();
        weightOutsideIsBad();
        weightsAtBothEnds();
        sixthIsFull();
        numberIsTheNumberThereWere();
        newRankingNamesNothing();
        nameWithoutRanking();
        nameWithoutDocument();
        nameOfNamedDocument();
        greaterNumbersMoveDown();
        whatMovesDownStaysTheSame();
        removeWithoutRanking();
        rankingsWithNoneAndFive();
        rankingsAfterEachCall();
        badBeforeFull();
        refusedChangesChangeNothing();
        refusedQuestionsChangeNothing();
        questionsChangeNothing();
        everyChangeIsRightAsTheLastOne();
        everyQuestionIsRightAsTheLastOne();
        changesUpToTheLastCall();
        nameAsTheLastCall();
        callsAfterTheLastOneStillEnd();
        Check.end();
    }

    /** "No rankings." */
    private static void newObjectHasNoRankings() {
        for (int documents = 2; documents <= 6; documents++) {
            RankFusion x = new RankFusion(documents);
            Check.due("rankings() of a new object", x.rankings(), 0);
            Check.due("remove(0) of a new object", x.remove(0), false);
            Check.due("name(0, 0) of a new object", x.name(0, 0), false);
            for (int d = 1; d < documents; d++) {
                Check.due("prefers(0, " + d + ") of a new object", x.prefers(0, d), 0);
                Check.due("prefers(" + d + ", 0) of a new object", x.prefers(d, 0), 0);
            }
            Check.due("begin(1) of a new object", x.begin(1), 0);
        }
    }

    /** "documents: clamped to 2 .. 6." */
    private static void documentsAreClamped() {
        for (int documents = 2; documents <= 6; documents++) {
            dueDocuments(documents, documents);
        }
        int[] tooSmall = {1, 0, -1, -2, -6, 3 - 256, 4 - 65536, Integer.MIN_VALUE + 3, Integer.MIN_VALUE};
        for (int wanted : tooSmall) {
            dueDocuments(wanted, 2);
        }
        int[] tooLarge = {7, 8, 32, 64, 3 + 256, 4 + 65536, Integer.MAX_VALUE - 1, Integer.MAX_VALUE};
        for (int wanted : tooLarge) {
            dueDocuments(wanted, 6);
        }
    }

    private static void dueDocuments(int wanted, int kept) {
        String of = " of RankFusion(" + wanted + ")";
        RankFusion x = new RankFusion(wanted);
        for (int d = -1; d <= 8; d++) {
            boolean document = d >= 0 && d < kept;
            Check.due("score(" + d + ")" + of, x.score(d), document ? 0 : -1000);
            Check.due("bestAt(" + d + ")" + of, x.bestAt(d), document ? d : RankFusion.NONE);
            Check.due("scoreAt(" + d + ")" + of, x.scoreAt(d), document ? d : RankFusion.NONE);
        }
        Check.due("topSet()" + of, x.topSet(), (1 << kept) - 1);
        Check.due("begin(1)" + of, x.begin(1), 0);
        for (int d = -1; d <= 8; d++) {
            Check.due("name(0, " + d + ")" + of, x.name(0, d), d >= 0 && d < kept);
        }
    }

    /** "Answers BAD when weight is not 1 .. 9" */
    private static void weightOutsideIsBad() {
        for (int rankings = 0; rankings <= 4; rankings++) {
            RankFusion x = Bounds.some(6, rankings);
            for (int weight : Bounds.outside(1, 9)) {
                Check.due("begin(" + weight + ") with " + rankings, x.begin(weight), RankFusion.BAD);
            }
            Check.due("rankings() after BAD", x.rankings(), rankings);
        }
        Check.due("BAD", RankFusion.BAD, -1);
    }

    /** "weight is not 1 .. 9", from within: every weight that is one is taken and weighs as much. */
    private static void weightsAtBothEnds() {
        for (int documents = 2; documents <= 6; documents += 4) {
            for (int weight = 1; weight <= 9; weight++) {
                RankFusion x = new RankFusion(documents);
                Check.due("begin(" + weight + ")", x.begin(weight), 0);
                Check.due("name(0, 1)", x.name(0, 1), true);
                Check.due("prefers(1, 0) at weight " + weight, x.prefers(1, 0), weight);
                Check.due("prefers(0, 1) at weight " + weight, x.prefers(0, 1), 0);
            }
        }
    }

    /** "FULL when five are there" */
    private static void sixthIsFull() {
        for (int documents = 2; documents <= 6; documents += 4) {
            RankFusion x = Bounds.some(documents, 4);
            Check.due("begin(9) with four", x.begin(9), 4);
            for (int weight = 1; weight <= 9; weight++) {
                Check.due("begin(" + weight + ") with five", x.begin(weight), RankFusion.FULL);
            }
            Check.due("rankings() after FULL", x.rankings(), 5);
            Check.due("remove(4)", x.remove(4), true);
            Check.due("begin(1) with four again", x.begin(1), 4);
            Check.due("begin(1) with five again", x.begin(1), RankFusion.FULL);
        }
        Check.due("FULL", RankFusion.FULL, -2);
    }

    /** "otherwise its number, which is the number of rankings there were." */
    private static void numberIsTheNumberThereWere() {
        RankFusion x = new RankFusion(2);
        for (int k = 0; k <= 4; k++) {
            Check.due("begin(9) with " + k, x.begin(9), k);
        }
        for (int taken = 1; taken <= 5; taken++) {
            for (int i = 0; i < taken; i++) {
                Check.due("remove(0)", x.remove(0), true);
            }
            for (int k = 5 - taken; k <= 4; k++) {
                Check.due("begin(1) with " + k + ", " + taken + " taken away", x.begin(1), k);
            }
        }
    }

    /** "naming nothing yet", also where a ranking that was taken away named everything. */
    private static void newRankingNamesNothing() {
        for (int documents = 2; documents <= 6; documents += 4) {
            for (int k = 0; k <= 4; k++) {
                RankFusion x = new RankFusion(documents);
                for (int i = 0; i <= 4; i++) {
                    x.begin(9);
                    nameAll(x, i, documents);
                }
                Check.due("remove(" + k + ")", x.remove(k), true);
                Check.due("begin(2)", x.begin(2), 4);
                Check.due("prefers(0, 1) before it names", x.prefers(0, 1), 36);
                Check.due("prefers(1, 0) before it names", x.prefers(1, 0), 0);
                Check.due("name(4, 1)", x.name(4, 1), true);
                Check.due("name(4, 0)", x.name(4, 0), true);
                Check.due("prefers(1, 0)", x.prefers(1, 0), 2);
            }
        }
    }

    private static void nameAll(RankFusion x, int k, int documents) {
        for (int d = 0; d < documents; d++) {
            Check.due("name(" + k + ", " + d + ")", x.name(k, d), true);
        }
    }

    /** "false, changing nothing, when there is no ranking k" */
    private static void nameWithoutRanking() {
        for (int rankings = 0; rankings <= 5; rankings++) {
            int count = rankings;
            for (int documents = 2; documents <= 6; documents += 4) {
                int last = documents - 1;
                Bounds.changesNothing("name without ranking, " + count + " there", documents, count, x -> {
                    for (int k : Bounds.outside(0, count - 1)) {
                        Check.due("name(" + k + ", 0) with " + count, x.name(k, 0), false);
                        Check.due("name(" + k + ", last) with " + count, x.name(k, last), false);
                    }
                });
            }
        }
        RankFusion x = Bounds.namingNothing(6);
        Check.due("name(0, 0), the first ranking", x.name(0, 0), true);
        Check.due("name(4, 0), the last ranking", x.name(4, 0), true);
        Check.due("remove(4)", x.remove(4), true);
        Check.due("name(4, 1) when it is taken away", x.name(4, 1), false);
    }

    /** "false, changing nothing, when there is .. no document d" */
    private static void nameWithoutDocument() {
        for (int documents = 2; documents <= 6; documents++) {
            int last = documents - 1;
            Bounds.changesNothing("name without document", documents, 5, x -> {
                for (int d : Bounds.outside(0, last)) {
                    for (int k = 0; k <= 4; k++) {
                        Check.due("name(" + k + ", " + d + ") of " + (last + 1), x.name(k, d), false);
                    }
                }
            });
            RankFusion x = Bounds.namingNothing(documents);
            Check.due("name(4, 0), the first document", x.name(4, 0), true);
            Check.due("name(4, " + last + "), the last document", x.name(4, last), true);
        }
    }

    /** "false, changing nothing, when .. k names d already." */
    private static void nameOfNamedDocument() {
        for (int documents = 2; documents <= 6; documents++) {
            int all = documents;
            Bounds.changesNothing("name of named documents", documents, 5, x -> {
                for (int d = 0; d < all; d++) {
                    Check.due("name(0, " + d + ") when all are named", x.name(0, d), false);
                }
                Check.due("name(1, 2 % documents) again", x.name(1, 2 % all), false);
                Check.due("name(4, 5 % documents) again", x.name(4, 5 % all), false);
            });
            RankFusion y = Bounds.namingNothing(documents);
            nameAll(y, 0, documents);
            nameAll(y, 1, documents);
            Check.due("remove(0)", y.remove(0), true);
            Check.due("name(0, 0) when it has moved down", y.name(0, 0), false);
            Check.due("name(0, last) when it has moved down", y.name(0, all - 1), false);
            Check.due("name(1, 0), which names nothing", y.name(1, 0), true);
        }
    }

    /** "those with greater numbers move down by one" */
    private static void greaterNumbersMoveDown() {
        for (int rankings = 1; rankings <= 5; rankings++) {
            for (int k = 0; k < rankings; k++) {
                RankFusion x = eachNamesItsNumber(rankings);
                Check.due("remove(" + k + ") of " + rankings, x.remove(k), true);
                Check.due("rankings() after remove", x.rankings(), rankings - 1);
                dueMoved(x, rankings, k);
            }
        }
    }

    /** Ranking k has weight k + 5 and names document k alone, so prefers(k, 5) is its weight. */
    private static RankFusion eachNamesItsNumber(int rankings) {
        RankFusion x = new RankFusion(6);
        for (int k = 0; k < rankings; k++) {
            x.begin(k + 5);
            x.name(k, k);
        }
        return x;
    }

    private static void dueMoved(RankFusion x, int rankings, int taken) {
        for (int was = 0; was < rankings; was++) {
            int due = was == taken ? 0 : was + 5;
            Check.due("prefers(" + was + ", 5), " + taken + " taken away", x.prefers(was, 5), due);
        }
        for (int k = 0; k < rankings - 1; k++) {
            int was = k < taken ? k : k + 1;
            Check.due("name(" + k + ", " + was + ") again, " + taken + " taken away", x.name(k, was), false);
            Check.due("name(" + k + ", 5), " + taken + " taken away", x.name(k, 5), true);
            Check.due("prefers(5, 4) with " + (k + 1), x.prefers(5, 4), weightsBelow4(k, taken));
        }
        int gone = rankings - 1;
        Check.due("name(" + gone + ", 4), no ranking any more", x.name(gone, 4), false);
        Check.due("remove(" + gone + "), no ranking any more", x.remove(gone), false);
    }

    /** The weights of the rankings 0 .. k after the taken one went, but for the one that names 4. */
    private static int weightsBelow4(int k, int taken) {
        int sum = 0;
        for (int now = 0; now <= k; now++) {
            int was = now < taken ? now : now + 1;
            sum += was == 4 ? 0 : was + 5;
        }
        return sum;
    }

    /** "those with greater numbers move down by one", with their weights and all that they name. */
    private static void whatMovesDownStaysTheSame() {
        for (int documents = 2; documents <= 6; documents++) {
            for (int rankings = 1; rankings <= 5; rankings++) {
                for (int k = 0; k < rankings; k++) {
                    RankFusion x = Bounds.some(documents, rankings);
                    Check.due("remove(" + k + ") of " + rankings, x.remove(k), true);
                    RankFusion never = Bounds.someWithout(documents, rankings, k);
                    Bounds.sameState(k + " of " + rankings + " taken away", x, never, documents);
                }
            }
        }
    }

    /** "false, changing nothing, when there is no ranking k." */
    private static void removeWithoutRanking() {
        for (int rankings = 0; rankings <= 5; rankings++) {
            int count = rankings;
            for (int documents = 2; documents <= 6; documents += 4) {
                Bounds.changesNothing("remove without ranking, " + count + " there", documents, count, x -> {
                    for (int k : Bounds.outside(0, count - 1)) {
                        Check.due("remove(" + k + ") with " + count, x.remove(k), false);
                    }
                });
            }
        }
        RankFusion x = Bounds.some(6, 5);
        Check.due("remove(5) of five", x.remove(5), false);
        Check.due("remove(4), the last of five", x.remove(4), true);
        Check.due("remove(4) of four", x.remove(4), false);
        Check.due("remove(0), the first of four", x.remove(0), true);
    }

    /** "The number of rankings." with none and with five, and all between. */
    private static void rankingsWithNoneAndFive() {
        for (int documents = 2; documents <= 6; documents += 4) {
            RankFusion x = new RankFusion(documents);
            for (int count = 0; count <= 5; count++) {
                Check.due("rankings() on the way up", x.rankings(), count);
                x.begin(9);
            }
            for (int count = 5; count >= 0; count--) {
                Check.due("rankings() on the way down", x.rankings(), count);
                x.remove(0);
            }
            Check.due("rankings() when none is left to remove", x.rankings(), 0);
        }
    }

    /** "The number of rankings." after each call, taken or refused. */
    private static void rankingsAfterEachCall() {
        RankFusion x = new RankFusion(6);
        dueRankings(x, "remove(0)", x.remove(0) ? 1 : 0, 0, 0);
        dueRankings(x, "name(0, 0)", x.name(0, 0) ? 1 : 0, 0, 0);
        dueRankings(x, "begin(0)", x.begin(0), RankFusion.BAD, 0);
        dueRankings(x, "begin(1)", x.begin(1), 0, 1);
        dueRankings(x, "begin(10)", x.begin(10), RankFusion.BAD, 1);
        dueRankings(x, "name(0, 5)", x.name(0, 5) ? 1 : 0, 1, 1);
        dueRankings(x, "name(0, 5)", x.name(0, 5) ? 1 : 0, 0, 1);
        dueRankings(x, "remove(1)", x.remove(1) ? 1 : 0, 0, 1);
        dueRankings(x, "remove(-1)", x.remove(-1) ? 1 : 0, 0, 1);
        for (int k = 1; k <= 4; k++) {
            dueRankings(x, "begin(9)", x.begin(9), k, k + 1);
        }
        dueRankings(x, "begin(9)", x.begin(9), RankFusion.FULL, 5);
        dueRankings(x, "begin(0)", x.begin(0), RankFusion.BAD, 5);
        dueRankings(x, "remove(5)", x.remove(5) ? 1 : 0, 0, 5);
        dueRankings(x, "name(4, 6)", x.name(4, 6) ? 1 : 0, 0, 5);
        dueRankings(x, "bestAt(6)", x.bestAt(6), RankFusion.NONE, 5);
        dueRankings(x, "score(6)", x.score(6), -1000, 5);
        dueRankings(x, "remove(2)", x.remove(2) ? 1 : 0, 1, 4);
        dueRankings(x, "begin(9)", x.begin(9), 4, 5);
        for (int left = 4; left >= 0; left--) {
            dueRankings(x, "remove(0)", x.remove(0) ? 1 : 0, 1, left);
        }
        dueRankings(x, "remove(0)", x.remove(0) ? 1 : 0, 0, 0);
    }

    private static void dueRankings(RankFusion x, String call, int got, int want, int count) {
        Check.due(call + " with " + count + " after it", got, want);
        Check.due("rankings() after " + call, x.rankings(), count);
    }

    /** "BAD is tested before FULL." */
    private static void badBeforeFull() {
        for (int documents = 2; documents <= 6; documents += 4) {
            RankFusion x = Bounds.some(documents, 5);
            for (int weight : Bounds.outside(1, 9)) {
                Check.due("begin(" + weight + ") with five", x.begin(weight), RankFusion.BAD);
            }
            Check.due("begin(1) with five", x.begin(1), RankFusion.FULL);
            Check.due("begin(9) with five", x.begin(9), RankFusion.FULL);
        }
    }

    /** "a call that is refused (by a code below 0 that is named, or by false) changes nothing." */
    private static void refusedChangesChangeNothing() {
        for (int documents = 2; documents <= 6; documents += 4) {
            int no = documents;
            for (int rankings = 0; rankings <= 5; rankings++) {
                refused("begin(0)", documents, rankings, x -> x.begin(0), RankFusion.BAD);
                refused("begin(10)", documents, rankings, x -> x.begin(10), RankFusion.BAD);
                refused("begin(MIN)", documents, rankings, x -> x.begin(Integer.MIN_VALUE), RankFusion.BAD);
                refused("begin(MAX)", documents, rankings, x -> x.begin(Integer.MAX_VALUE), RankFusion.BAD);
                refused("name(5, 0)", documents, rankings, x -> x.name(5, 0) ? 1 : 0, 0);
                refused("name(-1, 0)", documents, rankings, x -> x.name(-1, 0) ? 1 : 0, 0);
                refused("name(0, documents)", documents, rankings, x -> x.name(0, no) ? 1 : 0, 0);
                refused("name(0, -1)", documents, rankings, x -> x.name(0, -1) ? 1 : 0, 0);
                refused("name(0, 1)", documents, rankings, x -> x.name(0, 1) ? 1 : 0, 0);
                refused("remove(5)", documents, rankings, x -> x.remove(5) ? 1 : 0, 0);
                refused("remove(-1)", documents, rankings, x -> x.remove(-1) ? 1 : 0, 0);
            }
            refused("begin(1)", documents, 5, x -> x.begin(1), RankFusion.FULL);
            refused("begin(9)", documents, 5, x -> x.begin(9), RankFusion.FULL);
        }
    }

    /** The same sentence for the questions: "by a code below 0 that is named". */
    private static void refusedQuestionsChangeNothing() {
        int none = RankFusion.NONE;
        for (int documents = 2; documents <= 6; documents += 4) {
            for (int no : Bounds.outside(0, documents - 1)) {
                refused("prefers(0, no)", documents, 5, x -> x.prefers(0, no), none);
                refused("prefers(no, 1)", documents, 5, x -> x.prefers(no, 1), none);
                refused("leastWith(0, no)", documents, 5, x -> x.leastWith(0, no), none);
                refused("leastWith(no, 1)", documents, 5, x -> x.leastWith(no, 1), none);
                refused("strength(0, no)", documents, 5, x -> x.strength(0, no), none);
                refused("strength(no, 1)", documents, 5, x -> x.strength(no, 1), none);
                refused("bestAt(no)", documents, 5, x -> x.bestAt(no), none);
                refused("score(no)", documents, 5, x -> x.score(no), -1000);
                refused("scoreAt(no)", documents, 5, x -> x.scoreAt(no), none);
            }
            refused("prefers(1, 1)", documents, 5, x -> x.prefers(1, 1), none);
            refused("leastWith(1, 1)", documents, 5, x -> x.leastWith(1, 1), none);
            refused("strength(1, 1)", documents, 5, x -> x.strength(1, 1), none);
            refused("champion()", documents, 0, x -> x.champion(), none);
        }
    }

    private static void refused(String call, int documents, int rankings, ToIntFunction<RankFusion> refused, int code) {
        String where = call + " of " + documents + " with " + rankings;
        Bounds.changesNothing(where, documents, rankings, x -> Check.due(where, refused.applyAsInt(x), code));
    }

    /** A question that is answered changes nothing either: what is asked first tells later the same. */
    private static void questionsChangeNothing() {
        for (int documents = 2; documents <= 6; documents++) {
            int all = documents;
            RankFusion x = Bounds.some(documents, 5);
            Bounds.askAll(x, documents);
            RankFusion y = Bounds.some(documents, 5);
            Bounds.same("asked before", Bounds.takeApart(x, documents), Bounds.takeApart(y, documents));
            Bounds.changesNothing("all questions", documents, 5, z -> Bounds.askAll(z, all));
        }
    }

    /** "An object is used for at most 512 calls after it has been made": the 512th is still right. */
    private static void everyChangeIsRightAsTheLastOne() {
        lastCall("begin(9)", x -> x.begin(9), 3);
        lastCall("begin(10)", x -> x.begin(10), RankFusion.BAD);
        lastCall("name(2, 3) again", x -> x.name(2, 3) ? 1 : 0, 0);
        lastCall("remove(2)", x -> x.remove(2) ? 1 : 0, 1);
        lastCall("remove(3)", x -> x.remove(3) ? 1 : 0, 0);
    }

    /** The same sentence for the questions, after other calls and after the same one each time. */
    private static void everyQuestionIsRightAsTheLastOne() {
        lastQuestion("rankings()", RankFusion::rankings, 3);
        lastQuestion("prefers(2, 0)", x -> x.prefers(2, 0), 7);
        lastQuestion("least()", RankFusion::least, 10);
        lastQuestion("bestAt(0)", x -> x.bestAt(0), 2);
        lastQuestion("bestAt(3)", x -> x.bestAt(3), 3);
        lastQuestion("leastWith(3, 2)", x -> x.leastWith(3, 2), 23);
        lastQuestion("score(3)", x -> x.score(3), -27);
        lastQuestion("score(4)", x -> x.score(4), -1000);
        lastQuestion("scoreAt(2)", x -> x.scoreAt(2), 1);
        lastQuestion("champion()", RankFusion::champion, RankFusion.NONE);
        lastQuestion("topSet()", RankFusion::topSet, 7);
        lastQuestion("strength(1, 0)", x -> x.strength(1, 0), 5);
        lastQuestion("pathWinners()", RankFusion::pathWinners, 4);
    }

    private static void lastQuestion(String call, ToIntFunction<RankFusion> question, int want) {
        lastCall(call, question, want);
        RankFusion x = Check.ring();
        for (int made = CALLS_OF_RING + 1; made <= CALLS; made++) {
            Check.due(call + " as call " + made, question.applyAsInt(x), want);
        }
    }

    private static void lastCall(String call, ToIntFunction<RankFusion> last, int want) {
        lastCallAfter("begin and remove", call, last, want, x -> {
            Check.due("begin(9) on the way", x.begin(9), 3);
            Check.due("remove(3) on the way", x.remove(3), true);
        });
        lastCallAfter("refused changes", call, last, want, x -> {
            Check.due("begin(0) on the way", x.begin(0), RankFusion.BAD);
            Check.due("name(0, 0) on the way", x.name(0, 0), false);
        });
        lastCallAfter("questions", call, last, want, x -> {
            Check.due("leastWith(1, 2) on the way", x.leastWith(1, 2), 12);
            Check.due("strength(0, 1) on the way", x.strength(0, 1), 6);
        });
    }

    private static void lastCallAfter(
            String kind, String call, ToIntFunction<RankFusion> last, int want, Consumer<RankFusion> twoCalls) {
        RankFusion x = Check.ring();
        for (int made = CALLS_OF_RING; made < CALLS - 2; made += 2) {
            twoCalls.accept(x);
        }
        Check.due("rankings() as call 511 after " + kind, x.rankings(), 3);
        Check.due(call + " as call 512 after " + kind, last.applyAsInt(x), want);
    }

    /** The same sentence for changes: 512 calls of which three in four change the object. */
    private static void changesUpToTheLastCall() {
        for (int documents = 2; documents <= 6; documents += 4) {
            RankFusion x = new RankFusion(documents);
            for (int made = 0; made < CALLS; made += 4) {
                int weight = 1 + made / 4 % 9;
                int d = made / 4 % documents;
                Check.due("begin as call " + (made + 1), x.begin(weight), 0);
                Check.due("name as call " + (made + 2), x.name(0, d), true);
                Check.due("least with d last as call " + (made + 3), x.leastWith(d == 0 ? 1 : 0, d), weight);
                Check.due("remove as call " + (made + 4), x.remove(0), true);
            }
        }
    }

    /** The same sentence for a name that is taken as the 512th call, after 510 that are refused. */
    private static void nameAsTheLastCall() {
        RankFusion x = new RankFusion(6);
        Check.due("begin(9) as call 1", x.begin(9), 0);
        for (int call = 2; call < CALLS; call++) {
            Check.due("name(0, 6) as call " + call, x.name(0, 6), false);
        }
        Check.due("name(0, 5) as call 512", x.name(0, 5), true);
    }

    /**
     * "what later calls answer is free", but rule 7 of LANGUAGE.md lets no call throw in any
     * state: this test fails by its own end if one does.
     */
    private static void callsAfterTheLastOneStillEnd() {
        int[] numbers = {Integer.MIN_VALUE, -1, 0, 1, 5, 6, 9, Integer.MAX_VALUE};
        RankFusion x = Bounds.some(6, 5);
        for (int round = 0; round < 20; round++) {
            for (int a : numbers) {
                x.begin(a);
                for (int b : numbers) {
                    x.name(a, b);
                    x.prefers(a, b);
                    x.leastWith(a, b);
                    x.strength(a, b);
                }
                x.bestAt(a);
                x.score(a);
                x.scoreAt(a);
                x.remove(a);
            }
            x.rankings();
            x.least();
            x.champion();
            x.topSet();
            x.pathWinners();
        }
        Check.due("the calls after the 512th have ended", true, true);
    }
}
