import java.util.Map;
import java.util.function.Consumer;

/**
 * The promises speak of the rankings that are there when a question is asked. Here every question
 * is asked both before and after a change, so that no answer can be left over from before it.
 */
public final class ChangesTest {
    private ChangesTest() {
    }

    public static void main(String[] args) {
        answersFollowName();
        answersFollowRemove();
        answersFollowBegin();
        everyAnswerChanges();
        refusedCallsKeepTheAnswers();
        Check.end();
    }

    /** Promise 3: "Names document d next (after those named already) in ranking k." */
    private static void answersFollowName() {
        for (int documents = 2; documents <= 6; documents++) {
            for (int k = 0; k <= 4; k++) {
                for (int d = 0; d < documents; d++) {
                    int ranking = k;
                    int document = d;
                    follows("name(" + k + ", " + d + ")", documents, x -> x.name(ranking, document));
                }
            }
        }
    }

    /** Promise 4: "Takes ranking k away; those with greater numbers move down by one." */
    private static void answersFollowRemove() {
        for (int documents = 2; documents <= 6; documents++) {
            for (int k = 0; k <= 4; k++) {
                int ranking = k;
                follows("remove(" + k + ")", documents, x -> x.remove(ranking));
            }
        }
    }

    /** Promise 2: "Begins a new ranking with this weight, naming nothing yet." */
    private static void answersFollowBegin() {
        for (int documents = 2; documents <= 6; documents++) {
            RankFusion x = Bounds.some(documents, 3);
            Map<String, Integer> before = Bounds.askAll(x, documents);
            Check.due("begin(9)", x.begin(9), 3);
            // A ranking that names nothing changes no answer but the number of rankings.
            before.put("rankings()", 4);
            Bounds.same("after begin(9) of " + documents, Bounds.askAll(x, documents), before);
        }
    }

    /** An object that was asked before the change must answer like one that never was. */
    private static void follows(String call, int documents, Consumer<RankFusion> change) {
        RankFusion asked = Bounds.some(documents, 5);
        RankFusion neverAsked = Bounds.some(documents, 5);
        Bounds.askAll(asked, documents);
        change.accept(asked);
        change.accept(neverAsked);
        Map<String, Integer> due = Bounds.askAll(neverAsked, documents);
        Bounds.same("after " + call + " of " + documents, Bounds.askAll(asked, documents), due);
    }

    /** The same with the answers written out: each of these changes turns most of them. */
    private static void everyAnswerChanges() {
        for (int documents = 2; documents <= 6; documents++) {
            int last = documents - 1;
            RankFusion x = new RankFusion(documents);
            Check.due("begin(7)", x.begin(7), 0);
            Check.due("begin(7)", x.begin(7), 1);
            dueAllLevel("with nothing named", x, documents);
            Check.due("name(0, last)", x.name(0, last), true);
            dueLedBy("with last named", x, last, 0, documents);
            Check.due("name(1, 0)", x.name(1, 0), true);
            dueTwoLevel("with last and 0 named", x, last);
            Check.due("remove(0)", x.remove(0), true);
            dueLedBy("with 0 named", x, 0, last, documents);
            Check.due("remove(0)", x.remove(0), true);
            dueAllLevel("with none left", x, documents);
        }
    }

    private static void dueAllLevel(String when, RankFusion x, int documents) {
        int last = documents - 1;
        dueTop(when, x, RankFusion.NONE, (1 << documents) - 1);
        dueOrder(when, x, 0, 0);
        duePair(when, x, 0, last, 0, 0, 0);
        duePair(when, x, last, 0, 0, 0, 0);
        Check.due("score(0) " + when, x.score(0), 0);
        Check.due("score(last) " + when, x.score(last), 0);
    }

    /** Only one ranking, of weight 7, names anything: the leader alone. */
    private static void dueLedBy(String when, RankFusion x, int leader, int other, int documents) {
        dueTop(when, x, leader, 1 << leader);
        dueOrder(when, x, 0, leader);
        duePair(when, x, leader, other, 7, 0, 7);
        duePair(when, x, other, leader, 0, 7, 0);
        Check.due("score(leader) " + when, x.score(leader), 7 * (documents - 1));
        Check.due("score(other) " + when, x.score(other), -7);
    }

    /** Two rankings of weight 7: one names the last document alone, the other one 0 alone. */
    private static void dueTwoLevel(String when, RankFusion x, int last) {
        dueTop(when, x, RankFusion.NONE, 1 | 1 << last);
        dueOrder(when, x, 7, 0);
        duePair(when, x, 0, last, 7, 7, 0);
        duePair(when, x, last, 0, 7, 7, 0);
        Check.due("score(0) " + when, x.score(0), 7 * (last - 1));
        Check.due("score(last) " + when, x.score(last), 7 * (last - 1));
    }

    private static void dueTop(String when, RankFusion x, int champion, int set) {
        Check.due("champion() " + when, x.champion(), champion);
        Check.due("topSet() " + when, x.topSet(), set);
        Check.due("pathWinners() " + when, x.pathWinners(), set);
    }

    private static void dueOrder(String when, RankFusion x, int least, int first) {
        Check.due("least() " + when, x.least(), least);
        Check.due("bestAt(0) " + when, x.bestAt(0), first);
        Check.due("scoreAt(0) " + when, x.scoreAt(0), first);
    }

    private static void duePair(String when, RankFusion x, int a, int b, int prefers, int leastWith, int strength) {
        String pair = "(" + a + ", " + b + ") " + when;
        Check.due("prefers" + pair, x.prefers(a, b), prefers);
        Check.due("leastWith" + pair, x.leastWith(a, b), leastWith);
        Check.due("strength" + pair, x.strength(a, b), strength);
    }

    /** Promise 16: "a call that is refused .. changes nothing", of what was asked before either. */
    private static void refusedCallsKeepTheAnswers() {
        for (int documents = 2; documents <= 6; documents++) {
            int no = documents;
            RankFusion x = Bounds.some(documents, 5);
            Map<String, Integer> before = Bounds.askAll(x, documents);
            Check.due("begin(0)", x.begin(0), RankFusion.BAD);
            Check.due("begin(1)", x.begin(1), RankFusion.FULL);
            Check.due("name(5, 0)", x.name(5, 0), false);
            Check.due("name(0, documents)", x.name(0, no), false);
            Check.due("name(0, 0) again", x.name(0, 0), false);
            Check.due("remove(5)", x.remove(5), false);
            Check.due("leastWith(no, 0)", x.leastWith(no, 0), RankFusion.NONE);
            Check.due("strength(0, no)", x.strength(0, no), RankFusion.NONE);
            Bounds.same("after refused calls of " + documents, Bounds.askAll(x, documents), before);
        }
    }
}
