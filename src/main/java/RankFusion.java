/** Brings several rankings of the same documents together into one order. */
public final class RankFusion {
    public static final int BAD = -1;
    public static final int FULL = -2;
    public static final int NONE = -1;

    private static final int LEAST_DOCUMENTS = 2;
    private static final int MOST_DOCUMENTS = 6;
    private static final int MOST_RANKINGS = 5;
    private static final int LEAST_WEIGHT = 1;
    private static final int MOST_WEIGHT = 9;
    private static final int NO_SCORE = -1000;
    // MOST_RANKINGS * MOST_DOCUMENTS
    private static final int PLACES = 30;
    // MOST_DOCUMENTS * MOST_DOCUMENTS
    private static final int PAIRS = 36;
    // 2 to the power MOST_DOCUMENTS
    private static final int SETS = 64;
    // Above every distance: 15 pairs of documents with at most 5 * 9 each.
    private static final int TOO_FAR = 1000;

    private final int documents;
    private int rankingCount = 0;
    private final int[] weights = new int[MOST_RANKINGS];
    private final int[] namedCounts = new int[MOST_RANKINGS];
    // Counted from 1, so that 0 can say that the ranking does not name the document.
    private final int[] places = new int[PLACES];
    private final int[] setDistances = new int[SETS];
    private final int[] pathStrengths = new int[PAIRS];

    public RankFusion(int documents) {
        this.documents = clampedDocuments(documents);
    }

    public int begin(int weight) {
        if (weight < LEAST_WEIGHT || weight > MOST_WEIGHT) {
            return BAD;
        }
        if (rankingCount >= MOST_RANKINGS) {
            return FULL;
        }
        int k = rankingCount;
        weights[k] = weight;
        namedCounts[k] = 0;
        // A ranking that was removed may have left its places here.
        for (int d = 0; d < MOST_DOCUMENTS; d++) {
            places[placeIndex(k, d)] = 0;
        }
        rankingCount++;
        return k;
    }

    public boolean name(int k, int d) {
        if (!isRanking(k) || !isDocument(d)) {
            return false;
        }
        int index = placeIndex(k, d);
        if (places[index] != 0) {
            return false;
        }
        namedCounts[k]++;
        places[index] = namedCounts[k];
        return true;
    }

    public boolean remove(int k) {
        if (!isRanking(k)) {
            return false;
        }
        for (int to = k; to < rankingCount - 1; to++) {
            copyRanking(to + 1, to);
        }
        rankingCount--;
        return true;
    }

    public int rankings() {
        return rankingCount;
    }

    public int prefers(int a, int b) {
        if (!isPair(a, b)) {
            return NONE;
        }
        return preference(a, b);
    }

    public int least() {
        fillSetDistances(NONE, NONE);
        return setDistances[allDocuments()];
    }

    public int bestAt(int k) {
        if (!isPlace(k)) {
            return NONE;
        }
        fillSetDistances(NONE, NONE);
        int left = allDocuments();
        int leader = bestLeader(left);
        for (int place = 0; place < k; place++) {
            left = without(left, leader);
            leader = bestLeader(left);
        }
        return leader;
    }

    public int leastWith(int a, int b) {
        if (!isPair(a, b)) {
            return NONE;
        }
        fillSetDistances(a, b);
        return setDistances[allDocuments()];
    }

    public int score(int d) {
        if (!isDocument(d)) {
            return NO_SCORE;
        }
        return scoreOf(d);
    }

    public int scoreAt(int k) {
        if (!isPlace(k)) {
            return NONE;
        }
        for (int d = 0; d < documents; d++) {
            if (scorePlace(d) == k) {
                return d;
            }
        }
        return NONE;
    }

    public int champion() {
        for (int d = 0; d < documents; d++) {
            int alone = 1 << d;
            if (isDominant(alone)) {
                return d;
            }
        }
        return NONE;
    }

    public int topSet() {
        int all = allDocuments();
        // Of two dominant sets one holds the other, or two documents would beat each other;
        // and a set within another one is the lesser number. So the first is the smallest.
        for (int set = 1; set < all; set++) {
            if (isDominant(set)) {
                return set;
            }
        }
        return all;
    }

    public int strength(int a, int b) {
        if (!isPair(a, b)) {
            return NONE;
        }
        fillPathStrengths();
        return pathStrengths[pairIndex(a, b)];
    }

    public int pathWinners() {
        fillPathStrengths();
        int winners = 0;
        for (int d = 0; d < documents; d++) {
            if (isPathWinner(d)) {
                winners |= 1 << d;
            }
        }
        return winners;
    }

    private static int clampedDocuments(int wanted) {
        if (wanted < LEAST_DOCUMENTS) {
            return LEAST_DOCUMENTS;
        }
        return wanted > MOST_DOCUMENTS ? MOST_DOCUMENTS : wanted;
    }

    private static int placeIndex(int k, int d) {
        return k * MOST_DOCUMENTS + d;
    }

    private static int pairIndex(int a, int b) {
        return a * MOST_DOCUMENTS + b;
    }

    private static boolean has(int set, int d) {
        return (set >> d & 1) == 1;
    }

    private static int without(int set, int d) {
        return set & ~(1 << d);
    }

    private int allDocuments() {
        return (1 << documents) - 1;
    }

    private boolean isRanking(int k) {
        return k >= 0 && k < rankingCount;
    }

    private boolean isDocument(int d) {
        return d >= 0 && d < documents;
    }

    private boolean isPlace(int k) {
        return k >= 0 && k < documents;
    }

    private boolean isPair(int a, int b) {
        return a != b && isDocument(a) && isDocument(b);
    }

    private void copyRanking(int from, int to) {
        weights[to] = weights[from];
        namedCounts[to] = namedCounts[from];
        for (int d = 0; d < MOST_DOCUMENTS; d++) {
            places[placeIndex(to, d)] = places[placeIndex(from, d)];
        }
    }

    private boolean putsAbove(int k, int a, int b) {
        int placeOfA = places[placeIndex(k, a)];
        int placeOfB = places[placeIndex(k, b)];
        return placeOfA != 0 && (placeOfB == 0 || placeOfB > placeOfA);
    }

    private int preference(int a, int b) {
        int sum = 0;
        for (int k = 0; k < rankingCount; k++) {
            if (putsAbove(k, a, b)) {
                sum += weights[k];
            }
        }
        return sum;
    }

    private boolean beats(int a, int b) {
        return preference(a, b) > preference(b, a);
    }

    /**
     * Finds, for every set of documents, the least distance of a list of just these, in which
     * earlier comes before later where both are in it; NONE for both asks nothing of the lists.
     * A set's subsets are lesser numbers, so they are there before it needs them.
     */
    private void fillSetDistances(int earlier, int later) {
        int all = allDocuments();
        setDistances[0] = 0;
        for (int set = 1; set <= all; set++) {
            int nearest = TOO_FAR;
            for (int d = 0; d < documents; d++) {
                boolean tooSoon = d == later && has(set, earlier);
                if (has(set, d) && !tooSoon) {
                    int distance = distanceLedBy(d, set);
                    nearest = distance < nearest ? distance : nearest;
                }
            }
            setDistances[set] = nearest;
        }
    }

    private int distanceLedBy(int leader, int set) {
        int rest = without(set, leader);
        int distance = setDistances[rest];
        for (int d = 0; d < documents; d++) {
            if (has(rest, d)) {
                distance += preference(d, leader);
            }
        }
        return distance;
    }

    private int bestLeader(int set) {
        for (int d = 0; d < documents; d++) {
            if (has(set, d) && distanceLedBy(d, set) == setDistances[set]) {
                return d;
            }
        }
        return NONE;
    }

    private int scoreOf(int d) {
        int sum = 0;
        // d itself adds nothing: no ranking puts a document above itself.
        for (int other = 0; other < documents; other++) {
            sum += preference(d, other) - preference(other, d);
        }
        return sum;
    }

    private int scorePlace(int d) {
        int own = scoreOf(d);
        int ahead = 0;
        for (int other = 0; other < documents; other++) {
            int theirs = scoreOf(other);
            if (theirs > own || theirs == own && other < d) {
                ahead++;
            }
        }
        return ahead;
    }

    /** Whether every member of the set beats every document that is not in it. */
    private boolean isDominant(int set) {
        for (int a = 0; a < documents; a++) {
            for (int b = 0; b < documents; b++) {
                if (has(set, a) && !has(set, b) && !beats(a, b)) {
                    return false;
                }
            }
        }
        return true;
    }

    private void fillPathStrengths() {
        for (int a = 0; a < documents; a++) {
            for (int b = 0; b < documents; b++) {
                pathStrengths[pairIndex(a, b)] = beats(a, b) ? preference(a, b) : 0;
            }
        }
        // The document in the middle is the outermost loop, so that after each round every path
        // whose inner documents are at most middle has been weighed.
        for (int middle = 0; middle < documents; middle++) {
            for (int a = 0; a < documents; a++) {
                for (int b = 0; b < documents; b++) {
                    weighPathThrough(middle, a, b);
                }
            }
        }
    }

    private void weighPathThrough(int middle, int a, int b) {
        int start = pathStrengths[pairIndex(a, middle)];
        int end = pathStrengths[pairIndex(middle, b)];
        int weakest = start < end ? start : end;
        int index = pairIndex(a, b);
        if (weakest > pathStrengths[index]) {
            pathStrengths[index] = weakest;
        }
    }

    private boolean isPathWinner(int a) {
        for (int b = 0; b < documents; b++) {
            if (pathStrengths[pairIndex(a, b)] < pathStrengths[pairIndex(b, a)]) {
                return false;
            }
        }
        return true;
    }
}
