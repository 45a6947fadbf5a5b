import java.util.ArrayList;
import java.util.Arrays;
import java.util.List;

/**
 * Runs of calls against a model that follows the document's words by trying everything: all
 * orders, all sets and all paths. The calls come from a fixed row of numbers, so that every run
 * of this test is the same.
 */
public final class ModelTest {
    private static final int OBJECTS = 600;
    private static final int CHANGES = 40;

    private static long row = 20261115L;

    private ModelTest() {
    }

    public static void main(String[] args) {
        for (int i = 0; i < OBJECTS; i++) {
            int documents = 2 + i % 5;
            runOne("object " + i, new RankFusion(documents), new Model(documents));
        }
        Check.end();
    }

    private static int next(int bound) {
        row = row * 6364136223846793005L + 1442695040888963407L;
        return (int) ((row >>> 33) % bound);
    }

    private static void runOne(String run, RankFusion x, Model model) {
        for (int i = 0; i < CHANGES; i++) {
            change(run + " change " + i, x, model);
            askSome(run + " change " + i, x, model);
        }
        // At most 240 calls so far, and 4 + 8 * 3 + 64 * 3 questions: within the 512 calls.
        ask(run, x, model);
    }

    /** Three or four questions after a change, so that an answer left over from before it is found. */
    private static void askSome(String run, RankFusion x, Model model) {
        int a = next(model.documents);
        int b = next(model.documents);
        model.tryAllOrders();
        switch (next(3)) {
            case 0 -> askTop(run, x, model);
            case 1 -> askOne(run, x, model, a);
            default -> askPair(run, x, model, a, b);
        }
    }

    private static void change(String run, RankFusion x, Model model) {
        int kind = next(14);
        if (kind < 3) {
            int weight = next(8) == 0 ? next(14) - 2 : 1 + next(kind == 0 ? 9 : 2);
            Check.due(run + " begin(" + weight + ")", x.begin(weight), model.begin(weight));
        } else if (kind == 3 && next(2) == 0) {
            int k = next(8) - 1;
            Check.due(run + " remove(" + k + ")", x.remove(k), model.remove(k));
        } else {
            int k = next(7) - 1;
            int d = next(8) - 1;
            Check.due(run + " name(" + k + ", " + d + ")", x.name(k, d), model.name(k, d));
        }
        Check.due(run + " rankings()", x.rankings(), model.lists.size());
    }

    private static void ask(String run, RankFusion x, Model model) {
        model.tryAllOrders();
        askTop(run, x, model);
        for (int a = -1; a <= model.documents; a++) {
            askOne(run, x, model, a);
            for (int b = -1; b <= model.documents; b++) {
                askPair(run, x, model, a, b);
            }
        }
    }

    private static void askTop(String run, RankFusion x, Model model) {
        Check.due(run + " least()", x.least(), model.least);
        Check.due(run + " champion()", x.champion(), model.champion());
        Check.due(run + " topSet()", x.topSet(), model.topSet());
        Check.due(run + " pathWinners()", x.pathWinners(), model.pathWinners());
    }

    private static void askOne(String run, RankFusion x, Model model, int a) {
        boolean known = model.isDocument(a);
        int best = known ? model.best[a] : RankFusion.NONE;
        Check.due(run + " bestAt(" + a + ")", x.bestAt(a), best);
        Check.due(run + " score(" + a + ")", x.score(a), known ? model.score(a) : -1000);
        int scored = known ? model.scoreOrder().get(a) : RankFusion.NONE;
        Check.due(run + " scoreAt(" + a + ")", x.scoreAt(a), scored);
    }

    private static void askPair(String run, RankFusion x, Model model, int a, int b) {
        String pair = "(" + a + ", " + b + ")";
        boolean known = a != b && model.isDocument(a) && model.isDocument(b);
        int none = RankFusion.NONE;
        Check.due(run + " prefers" + pair, x.prefers(a, b), known ? model.prefers(a, b) : none);
        Check.due(run + " strength" + pair, x.strength(a, b), known ? model.strength(a, b) : none);
        Check.due(run + " leastWith" + pair, x.leastWith(a, b), known ? model.leastWith[a][b] : none);
    }

    private static final class Model {
        final int documents;
        final List<List<Integer>> lists = new ArrayList<>();
        final List<Integer> weights = new ArrayList<>();
        int least;
        int[] best;
        int[][] leastWith;

        Model(int documents) {
            this.documents = documents;
        }

        boolean isDocument(int d) {
            return d >= 0 && d < documents;
        }

        int begin(int weight) {
            if (weight < 1 || weight > 9) {
                return -1;
            }
            if (lists.size() == 5) {
                return -2;
            }
            lists.add(new ArrayList<>());
            weights.add(weight);
            return lists.size() - 1;
        }

        boolean name(int k, int d) {
            if (k < 0 || k >= lists.size() || !isDocument(d) || lists.get(k).contains(d)) {
                return false;
            }
            return lists.get(k).add(d);
        }

        boolean remove(int k) {
            if (k < 0 || k >= lists.size()) {
                return false;
            }
            lists.remove(k);
            weights.remove(k);
            return true;
        }

        int prefers(int a, int b) {
            int sum = 0;
            for (int k = 0; k < lists.size(); k++) {
                int placeOfA = lists.get(k).indexOf(a);
                int placeOfB = lists.get(k).indexOf(b);
                if (placeOfA >= 0 && (placeOfB < 0 || placeOfB > placeOfA)) {
                    sum += weights.get(k);
                }
            }
            return sum;
        }

        boolean beats(int a, int b) {
            return prefers(a, b) > prefers(b, a);
        }

        void tryAllOrders() {
            least = Integer.MAX_VALUE;
            leastWith = new int[documents][documents];
            for (int[] line : leastWith) {
                Arrays.fill(line, Integer.MAX_VALUE);
            }
            int[][] table = new int[documents][documents];
            for (int a = 0; a < documents; a++) {
                for (int b = 0; b < documents; b++) {
                    table[a][b] = prefers(a, b);
                }
            }
            extend(new int[documents], 0, table);
        }

        /** Goes through the orders in the dictionary order, so that the first least one is best. */
        private void extend(int[] order, int length, int[][] table) {
            if (length == documents) {
                weigh(order, table);
                return;
            }
            for (int d = 0; d < documents; d++) {
                boolean used = false;
                for (int i = 0; i < length; i++) {
                    used |= order[i] == d;
                }
                if (!used) {
                    order[length] = d;
                    extend(order, length + 1, table);
                }
            }
        }

        private void weigh(int[] order, int[][] table) {
            int distance = 0;
            for (int i = 0; i < documents; i++) {
                for (int j = i + 1; j < documents; j++) {
                    distance += table[order[j]][order[i]];
                }
            }
            if (distance < least) {
                least = distance;
                best = order.clone();
            }
            for (int i = 0; i < documents; i++) {
                for (int j = i + 1; j < documents; j++) {
                    int[] line = leastWith[order[i]];
                    line[order[j]] = Math.min(line[order[j]], distance);
                }
            }
        }

        int score(int d) {
            int sum = 0;
            for (int b = 0; b < documents; b++) {
                if (b != d) {
                    sum += prefers(d, b) - prefers(b, d);
                }
            }
            return sum;
        }

        List<Integer> scoreOrder() {
            List<Integer> order = new ArrayList<>();
            for (int d = 0; d < documents; d++) {
                order.add(d);
            }
            // The sort is stable, so equal scores stay in the order of their numbers.
            order.sort((a, b) -> score(b) - score(a));
            return order;
        }

        int champion() {
            for (int a = 0; a < documents; a++) {
                int beaten = 0;
                for (int b = 0; b < documents; b++) {
                    beaten += b != a && beats(a, b) ? 1 : 0;
                }
                if (beaten == documents - 1) {
                    return a;
                }
            }
            return -1;
        }

        int topSet() {
            int smallest = (1 << documents) - 1;
            for (int set = (1 << documents) - 1; set > 0; set--) {
                if (Integer.bitCount(set) < Integer.bitCount(smallest) && beatsAllOutside(set)) {
                    smallest = set;
                }
            }
            return smallest;
        }

        private boolean beatsAllOutside(int set) {
            boolean all = true;
            for (int a = 0; a < documents; a++) {
                for (int b = 0; b < documents; b++) {
                    boolean across = (set & 1 << a) != 0 && (set & 1 << b) == 0;
                    all &= !across || beats(a, b);
                }
            }
            return all;
        }

        int strength(int a, int b) {
            return strongest(a, b, 1 << a, Integer.MAX_VALUE);
        }

        private int strongest(int at, int goal, int seen, int weakest) {
            if (at == goal) {
                return weakest;
            }
            int strongest = 0;
            for (int d = 0; d < documents; d++) {
                if ((seen & 1 << d) == 0 && beats(at, d)) {
                    int step = Math.min(weakest, prefers(at, d));
                    strongest = Math.max(strongest, strongest(d, goal, seen | 1 << d, step));
                }
            }
            return strongest;
        }

        int pathWinners() {
            int winners = 0;
            for (int a = 0; a < documents; a++) {
                boolean wins = true;
                for (int b = 0; b < documents; b++) {
                    wins &= a == b || strength(a, b) >= strength(b, a);
                }
                winners |= wins ? 1 << a : 0;
            }
            return winners;
        }
    }
}
