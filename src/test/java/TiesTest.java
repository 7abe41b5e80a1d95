import java.util.Random;

/** Ties, where the document says which one is taken: the leader, the most worn place, the first cut, the best order. */
final class TiesTest {
    private TiesTest() {
    }

    public static void main(String[] args) {
        theLeaderIsTheLowest();
        moreIsMoreThanLower();
        theMostWornPlaceIsTheLowest();
        withoutWearItIsPlaceZero();
        theLowestOfThoseCut();
        theLowestOfThoseCutIsNotTheLowestOfAll();
        leastDxComesFirst();
        thenLeastDy();
        allOrdersAlike();
        allOrdersAlikeForALoss();
        theBestOfAllThatArePlayed();
        Check.end("TiesTest");
    }

    // ---- the leader

    /** The kites of the set get a point each from a kite with a weak string, which all of them cross. */
    private static KiteStrings scored(int set) {
        KiteStrings k = new KiteStrings();
        for (int i = 0; i < 5; i++) {
            boolean crosses = (set >> i & 1) == 1;
            k.launch(10 * i + 10, 10 * i + 10, crosses ? 47 : 1, 5, 200);
        }
        k.launch(60, 0, 40, 0, 10);
        k.pass(1);
        return k;
    }

    private static void theLeaderIsTheLowest() {
        for (int set = 1; set < 32; set++) {
            KiteStrings k = scored(set);
            int lowest = 0;
            while ((set >> lowest & 1) == 0) {
                lowest++;
            }
            Check.due("those with a point: " + set + ", all points", k.count(6), Integer.bitCount(set));
            Check.due("those with a point: " + set + ", the lowest", k.count(5), lowest);
            k.round();
            Check.due("those with a point: " + set + ", in the next round", k.count(5), lowest);
        }
        KiteStrings none = new KiteStrings();
        Check.due("no kite", none.count(5), KiteStrings.NONE);
        for (int i = 0; i < 6; i++) {
            none.launch(i, i, 1, 0, 10);
            Check.due("no points", none.count(5), 0);
        }
    }

    private static void moreIsMoreThanLower() {
        KiteStrings k = scored(7);
        k.round();
        k.land(0);
        Check.due("the second and the third get one more", k.pass(1), 32);
        Check.due("the second leads", k.count(5), 1);
        k.round();
        k.land(0);
        k.land(1);
        Check.due("the third gets one more", k.pass(1), 32);
        Check.due("the third leads", k.count(5), 2);
        k.undo();
        Check.due("not yet", k.count(5), 1);
    }

    // ---- the most worn place

    private static void theMostWornPlaceIsTheLowest() {
        KiteStrings k = new KiteStrings();
        k.launch(20, 20, 32, 0, 200);
        k.launch(36, 4, 32, 3, 200);
        k.launch(8, 32, 16, 3, 200);
        int higher = k.crossing(0, 1, 1);
        int lower = k.crossing(0, 2, 1);
        Check.due("the higher place", higher, 16);
        Check.due("the lower place", lower, 8);
        k.pass(1);
        Check.due("both are worn alike", k.wear(0, higher), k.wear(0, lower));
        Check.due("the greatest wear", k.kite(0, 9), k.wear(0, 8));
        Check.due("the lowest place of it", k.kite(0, 10), 8);
        k.land(2);
        k.pass(1);
        Check.due("the higher one is worn more", k.kite(0, 10), 16);
        k.undo();
        k.undo();
        k.land(1);
        k.pass(1);
        Check.due("the lower one is worn more", k.kite(0, 10), 8);
        Check.due("how much", k.land(0), 12);
    }

    private static void withoutWearItIsPlaceZero() {
        KiteStrings k = Check.pair(0, 10, 0, 10);
        k.pass(50);
        Check.due("crossed without glass: the greatest wear", k.kite(0, 9), 0);
        Check.due("crossed without glass: its place", k.kite(0, 10), 0);
        KiteStrings start = new KiteStrings();
        start.launch(20, 20, 47, 0, 200);
        start.launch(19, 63, 1, 5, 200);
        start.pass(1);
        Check.due("the first place is worn", start.kite(0, 9), 10);
        Check.due("the first place", start.kite(0, 10), 0);
        KiteStrings end = new KiteStrings();
        end.launch(20, 20, 20, 0, 200);
        end.launch(63, 19, 20, 5, 200);
        end.pass(1);
        Check.due("the last place is worn", end.kite(0, 9), 10);
        Check.due("the last place", end.kite(0, 10), 31);
    }

    // ---- the first cut

    private static KiteStrings six(int weak, int byWhom) {
        KiteStrings k = new KiteStrings();
        for (int i = 0; i < 6; i++) {
            int glass = i == byWhom ? 5 : 0;
            k.launch(10 * i, 50 - 10 * i, 40, glass, (weak >> i & 1) == 1 ? 10 : 200);
        }
        return k;
    }

    private static void theLowestOfThoseCut() {
        for (int weak = 1; weak < 64; weak++) {
            for (int byWhom = 0; byWhom < 6; byWhom++) {
                // All strings cross, but not all crossings are steep: some are cut one tick after others.
                KiteStrings k = six(weak, byWhom);
                int tick = k.firstCut(0);
                int lowest = k.firstCut(1);
                int scorers = k.firstCut(2);
                int before = tick > 1 ? k.pass(tick - 1) : 0;
                Check.due("before the first cut", before, 0);
                int set = k.pass(1);
                Check.due("the lowest of " + set, lowest, Integer.numberOfTrailingZeros(set));
                Check.due("who wears is not cut", set >> byWhom & 1, 0);
                int got = 0;
                for (int i = 0; i < 6; i++) {
                    got |= k.kite(i, 7) > 0 ? 1 << i : 0;
                }
                Check.due("who gets points", scorers, got);
            }
        }
    }

    private static void theLowestOfThoseCutIsNotTheLowestOfAll() {
        KiteStrings k = new KiteStrings();
        for (int i = 1; i <= 5; i++) {
            k.launch(10 * i, 10 * i, 47, 0, i == 3 || i == 5 ? 10 : 200);
        }
        k.launch(60, 0, 40, 5, 200);
        k.order(5, 0, 1);
        Check.due("firstCut(0)", k.firstCut(0), 1);
        Check.due("firstCut(1)", k.firstCut(1), 2);
        Check.due("firstCut(2)", k.firstCut(2), 32);
        Check.due("pass(1)", k.pass(1), 4 + 16);
    }

    // ---- the best order

    private static void best(String what, KiteStrings k, int ticks, int dx, int dy, int gain) {
        bestOf(what, k, 1, ticks, dx, dy, gain);
    }

    private static void bestOf(String what, KiteStrings k, int kite, int ticks, int dx, int dy, int gain) {
        Check.due(what + ": dx", k.bestOrder(kite, ticks, 0), dx + 10);
        Check.due(what + ": dy", k.bestOrder(kite, ticks, 1), dy + 10);
        Check.due(what + ": gain", k.bestOrder(kite, ticks, 2), gain + 10);
    }

    private static int gain(KiteStrings k, int dx, int dy, int ticks) {
        return gainOf(k, 1, dx, dy, ticks);
    }

    /** What an order brings a kite in so many ticks, played. */
    private static int gainOf(KiteStrings k, int kite, int dx, int dy, int ticks) {
        int before = k.kite(kite, 7);
        k.order(kite, dx, dy);
        k.pass(ticks);
        int gain = k.kite(kite, 7) - before - (k.kite(kite, 8) == KiteStrings.CUT ? 2 : 0);
        k.undo();
        k.undo();
        return gain;
    }

    /** The other string goes along y = x / 2; above it this kite crosses it, and gets a point at once. */
    private static KiteStrings beside(int x, int y) {
        KiteStrings k = new KiteStrings();
        k.launch(0, 60, 30, 0, 10);
        k.launch(40, x, y, 5, 200);
        return k;
    }

    private static void leastDxComesFirst() {
        // At x = 2 a step of -3 turns, and dy has to be 1; with -2 each dy would do.
        KiteStrings border = beside(2, 1);
        Check.due("-3, 1 brings a point", gain(border, -3, 1, 1), 1);
        Check.due("-3, 0 does not", gain(border, -3, 0, 1), 0);
        Check.due("-2, -3 brings a point, too", gain(border, -2, -3, 1), 1);
        best("least dx before least dy", border, 1, -3, 1, 1);
        KiteStrings low = beside(40, 20);
        Check.due("-3, -1 brings a point", gain(low, -3, -1, 1), 1);
        Check.due("-1, 0 brings a point, too", gain(low, -1, 0, 1), 1);
        best("least dx", low, 1, -3, -1, 1);
        // Two ticks: at x = 44 the string is at 22.
        KiteStrings later = beside(50, 20);
        Check.due("-3, 1 does in two ticks", gain(later, -3, 1, 2), 0);
        Check.due("-3, 2 does in two ticks", gain(later, -3, 2, 2), 1);
        best("in two ticks", later, 2, -3, 2, 1);
    }

    private static void thenLeastDy() {
        KiteStrings k = beside(40, 22);
        Check.due("-3, -3 brings a point", gain(k, -3, -3, 1), 1);
        Check.due("-3, 3 brings a point, too", gain(k, -3, 3, 1), 1);
        best("all dy", k, 1, -3, -3, 1);
        KiteStrings some = beside(40, 19);
        Check.due("-3, -1 does not", gain(some, -3, -1, 1), 0);
        Check.due("-3, 0 brings a point", gain(some, -3, 0, 1), 1);
        Check.due("-3, 1 brings a point, too", gain(some, -3, 1, 1), 1);
        best("some dy", some, 1, -3, 0, 1);
    }

    private static void allOrdersAlike() {
        KiteStrings k = beside(63, 1);
        k.order(1, 3, 3);
        best("none brings a point", k, 1, -3, -3, 0);
        KiteStrings scored = beside(40, 30);
        scored.pass(1);
        Check.due("there is a point already", scored.kite(1, 7), 1);
        best("points of before don't count", scored, 50, -3, -3, 0);
    }

    private static void allOrdersAlikeForALoss() {
        KiteStrings lost = new KiteStrings();
        lost.launch(20, 20, 40, 5, 200);
        lost.launch(40, 5, 20, 0, 10);
        best("lost", lost, 1, -3, -3, -2);
        KiteStrings both = new KiteStrings();
        both.launch(20, 20, 40, 5, 10);
        both.launch(40, 5, 20, 5, 10);
        best("lost for a point", both, 1, -3, -3, -1);
    }

    /** All 49 orders are played for real; of the best ones the first by dx, then by dy, is due. */
    private static void theBestOfAllThatArePlayed() {
        int ties = 0;
        for (int seed = 0; seed < 120; seed++) {
            int kite = seed % 6;
            int ticks = seed % 20 == 19 ? 50 : 1 + seed % 12;
            int[] due = {0, 0, -9};
            int times = 0;
            for (int dx = -3; dx <= 3; dx++) {
                for (int dy = -3; dy <= 3; dy++) {
                    int gain = gainOf(crowd(seed), kite, dx, dy, ticks);
                    times = gain == due[2] ? times + 1 : gain > due[2] ? 1 : times;
                    if (gain > due[2]) {
                        due = new int[] {dx, dy, gain};
                    }
                }
            }
            ties += times > 1 && times < 49 ? 1 : 0;
            bestOf("crowd " + seed, crowd(seed), kite, ticks, due[0], due[1], due[2]);
        }
        Check.due("many of them are ties", ties > 40 ? 1 : 0, 1);
    }

    private static KiteStrings crowd(int seed) {
        Random random = new Random(seed);
        KiteStrings k = new KiteStrings();
        for (int i = 0; i < 6; i++) {
            k.launch(10 + random.nextInt(40), random.nextInt(64), 15 + random.nextInt(33), random.nextInt(6),
                10 + random.nextInt(30));
            k.order(i, random.nextInt(7) - 3, random.nextInt(7) - 3);
        }
        return k;
    }
}
