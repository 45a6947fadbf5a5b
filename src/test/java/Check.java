/** What the tests share: comparing answers, and making objects with rankings in them. */
final class Check {
    private static int wrong = 0;
    private static int made = 0;

    private Check() {
    }

    static void due(String what, long got, long want) {
        made++;
        if (got != want) {
            wrong++;
            System.out.println(what + " answered " + got + ", due is " + want);
        }
    }

    static void due(String what, boolean got, boolean want) {
        due(what, got ? 1 : 0, want ? 1 : 0);
    }

    /** Begins a ranking and names the documents in it; all of it must be taken. */
    static void rank(RankFusion x, int weight, int... named) {
        int k = x.rankings();
        due("begin(" + weight + ")", x.begin(weight), k);
        for (int d : named) {
            due("name(" + k + ", " + d + ")", x.name(k, d), true);
        }
    }

    /** Documents 0, 1, 2 beat each other in a ring (0 beats 1, 1 beats 2, 2 beats 0), 3 loses. */
    static RankFusion ring() {
        RankFusion x = new RankFusion(4);
        rank(x, 2, 0, 1, 2, 3);
        rank(x, 3, 1, 2, 0, 3);
        rank(x, 4, 2, 0, 1, 3);
        return x;
    }

    static void end() {
        System.out.println(made + " answers, " + wrong + " not as due");
        if (wrong != 0 || made == 0) {
            System.exit(1);
        }
    }
}
