/** Promise 6, and what the document says of ticks. */
final class TickTest {
    private TickTest() {
    }

    public static void main(String[] args) {
        passErrors();
        passCountsTicks();
        kitesTurnAtTheBorders();
        kitesStayAtRest();
        wearByGlassAndAngle();
        wearBySlidingAfterTheTurn();
        wearGoesToThePlace();
        bothAreCutAndBothScore();
        allWhoCrossAtTheWornPlaceScore();
        aPointForEachCut();
        aCutStringIsGone();
        aRoundWithoutGlassCutsNobody();
        strengthIsTheEdge();
        allSixTakePart();
        allSixAgainstOne();
        allCrossAll();
        Check.end("TickTest");
    }

    private static void passErrors() {
        KiteStrings k = Check.pair(5, 10, 5, 10);
        String before = Check.look(k);
        int[] wrong = {0, -1, 201, Integer.MIN_VALUE, Integer.MAX_VALUE};
        for (int ticks : wrong) {
            Check.due("pass(" + ticks + ")", k.pass(ticks), KiteStrings.BAD_VALUE);
        }
        Check.same("after wrong passes", Check.look(k), before);
    }

    private static void passCountsTicks() {
        KiteStrings k = new KiteStrings();
        Check.due("pass(200)", k.pass(200), 0);
        Check.due("pass(1)", k.pass(1), 0);
        Check.due("count(3)", k.count(3), 201);
        Check.due("pass is a change", k.count(9), 2);
    }

    private static void kitesTurnAtTheBorders() {
        int[][] due = { // x, y, dx, dy, then where it is and what it does after one tick and after two
            {60, 44, 3, 3, 63, 47, 3, 3, 63, 47, -3, -3},
            {61, 45, 3, 3, 61, 45, -3, -3, 58, 42, -3, -3},
            {63, 47, 1, 1, 63, 47, -1, -1, 62, 46, -1, -1},
            {3, 4, -3, -3, 0, 1, -3, -3, 0, 1, 3, 3},
            {2, 3, -3, -3, 2, 3, 3, 3, 5, 6, 3, 3},
            {0, 1, -1, -1, 0, 1, 1, 1, 1, 2, 1, 1},
            {62, 20, 2, 1, 62, 21, -2, 1, 60, 22, -2, 1},
            {20, 46, 2, 2, 22, 46, 2, -2, 24, 44, 2, -2}};
        for (int[] d : due) {
            KiteStrings k = new KiteStrings();
            k.launch(30, d[0], d[1], 0, 10);
            k.order(0, d[2], d[3]);
            for (int tick = 0; tick < 2; tick++) {
                k.pass(1);
                String at = "from " + d[0] + ", " + d[1] + " tick " + (tick + 1) + ": ";
                Check.due(at + "x", k.kite(0, 1), d[4 + 4 * tick]);
                Check.due(at + "y", k.kite(0, 2), d[5 + 4 * tick]);
                Check.due(at + "dx", k.kite(0, 3) - 10, d[6 + 4 * tick]);
                Check.due(at + "dy", k.kite(0, 4) - 10, d[7 + 4 * tick]);
            }
        }
    }

    private static void kitesStayAtRest() {
        KiteStrings k = new KiteStrings();
        k.launch(30, 63, 1, 0, 10);
        k.pass(200);
        Check.due("x at rest", k.kite(0, 1), 63);
        Check.due("y at rest", k.kite(0, 2), 1);
        Check.due("dx at rest", k.kite(0, 3), 10);
    }

    private static void wearByGlassAndAngle() {
        KiteStrings steep = Check.pair(3, 200, 2, 200);
        steep.pass(1);
        Check.due("a steep crossing wears by twice the other's glass", steep.wear(0, 16), 4);
        Check.due("and the other one", steep.wear(1, 16), 6);
        KiteStrings flat = new KiteStrings();
        flat.launch(0, 60, 20, 3, 200);
        flat.launch(60, 0, 20, 2, 200);
        flat.pass(1);
        Check.due("a crossing that is not steep wears by the other's glass", flat.wear(0, 16), 2);
        Check.due("and the other one", flat.wear(1, 16), 3);
        flat.pass(2);
        Check.due("wear adds up", flat.wear(0, 16), 6);
        Check.due("other places have none", flat.wear(0, 15) + flat.wear(0, 17), 0);
    }

    private static void wearBySlidingAfterTheTurn() {
        KiteStrings k = new KiteStrings();
        k.launch(10, 62, 40, 3, 200);
        k.launch(50, 10, 40, 2, 200);
        k.order(0, 3, 0);
        k.order(1, -3, 0);
        Check.due("the sliding before", k.crossing(0, 1, 4), 7);
        k.pass(1);
        Check.due("the sliding after the turn", k.crossing(0, 1, 4), 1);
        Check.due("wear by the sliding after the turn", k.wear(0, 13), 4);
        Check.due("and on the other one", k.wear(1, 13), 6);
        k.order(0, 1, -1);
        k.order(1, -1, 1);
        k.pass(1);
        int place = k.crossing(0, 1, 1);
        int earlier = place == 13 ? 4 : 0;
        Check.due("sliding in both directions", k.wear(0, place), earlier + 2 * 5 * 2);
    }

    private static void wearGoesToThePlace() {
        KiteStrings k = new KiteStrings();
        k.launch(20, 20, 40, 1, 200);
        k.launch(30, 10, 20, 1, 200);
        k.pass(1);
        Check.due("wear(0, 8)", k.wear(0, 8), 2);
        Check.due("wear(1, 16)", k.wear(1, 16), 2);
        Check.due("kite(0, 9)", k.kite(0, 9), 2);
        k.step(1, 34);
        k.pass(1);
        Check.due("the older wear stays", k.wear(0, 8), 2);
        Check.due("the new place", k.kite(1, 10), 16);
        Check.due("wear at the new place", k.wear(1, 18), k.crossing(1, 0, 3) == 1 ? 2 : 1);
    }

    private static void bothAreCutAndBothScore() {
        KiteStrings k = Check.pair(5, 10, 5, 10);
        Check.due("pass(1)", k.pass(1), 3);
        Check.due("kite(0, 8)", k.kite(0, 8), KiteStrings.CUT);
        Check.due("kite(1, 8)", k.kite(1, 8), KiteStrings.CUT);
        Check.due("kite(0, 7)", k.kite(0, 7), 1);
        Check.due("kite(1, 7)", k.kite(1, 7), 1);
        Check.due("count(7)", k.count(7), 2);
        Check.due("pass(1) later", k.pass(1), 0);
        Check.due("count(6)", k.count(6), 2);
    }

    private static void allWhoCrossAtTheWornPlaceScore() {
        KiteStrings k = new KiteStrings();
        k.launch(20, 20, 40, 0, 10);
        k.launch(40, 0, 40, 5, 200);
        k.launch(0, 40, 40, 0, 200);
        k.launch(19, 63, 20, 0, 200);
        Check.due("the fourth crosses at another place", k.crossing(0, 3, 1), 0);
        Check.due("the third crosses at the same place", k.crossing(0, 2, 1), 16);
        Check.due("pass(1)", k.pass(1), 1);
        Check.due("who is cut gets no point of it", k.kite(0, 7), 0);
        Check.due("whose glass wore it gets one", k.kite(1, 7), 1);
        Check.due("who crosses there without glass gets one", k.kite(2, 7), 1);
        Check.due("who crosses elsewhere gets none", k.kite(3, 7), 0);
        Check.due("the wear that others got stays", k.wear(2, 16), 10);
    }

    private static void aPointForEachCut() {
        KiteStrings k = new KiteStrings();
        k.launch(20, 20, 40, 0, 10);
        k.launch(30, 30, 40, 0, 10);
        k.launch(60, 0, 40, 5, 200);
        k.launch(61, 63, 1, 5, 200);
        Check.due("both cross the third", k.kite(2, 11), 3);
        int ticks = k.firstCut(0);
        Check.due("pass", k.pass(ticks), 3);
        Check.due("a point for each", k.kite(2, 7), 2);
        Check.due("count(5)", k.count(5), 2);
        Check.due("no point for who does not cross", k.kite(3, 7), 0);
    }

    private static void aCutStringIsGone() {
        KiteStrings k = Check.pair(5, 200, 1, 20);
        Check.due("pass(10)", k.pass(10), 2);
        Check.due("two ticks of wear", k.wear(0, 16), 4);
        Check.due("no string to cross", k.kite(0, 11), 0);
        Check.due("no wear of a cut string", k.wear(1, 16), KiteStrings.NOT_POSSIBLE);
        Check.due("count(2)", k.count(2), 0);
        Check.due("its order stays", k.kite(1, 3), 10);
    }

    private static void aRoundWithoutGlassCutsNobody() {
        KiteStrings k = Check.pair(0, 10, 0, 10);
        Check.due("pass(200)", k.pass(200), 0);
        Check.due("kite(0, 9)", k.kite(0, 9), 0);
    }

    private static void allSixTakePart() {
        KiteStrings k = new KiteStrings();
        for (int i = 1; i <= 5; i++) {
            k.launch(10 * i, 10 * i, 47, 0, 10);
        }
        k.launch(60, 0, 40, 5, 200);
        Check.due("the last one crosses all", k.kite(5, 11), 31);
        Check.due("five crossings", k.count(2), 5);
        Check.due("firstCut(1)", k.firstCut(1), 0);
        Check.due("firstCut(2)", k.firstCut(2), 32);
        k.order(5, 0, 1);
        Check.due("pass(1)", k.pass(1), 31);
        Check.due("the last one moves", k.kite(5, 2), 41);
        Check.due("it gets five points", k.kite(5, 7), 5);
        Check.due("count(1)", k.count(1), 32);
        Check.due("count(5)", k.count(5), 5);
        Check.due("count(6)", k.count(6), 5);
        Check.due("count(7)", k.count(7), 5);
    }

    private static void allSixAgainstOne() {
        KiteStrings k = new KiteStrings();
        for (int i = 1; i <= 5; i++) {
            k.launch(10 * i, 10 * i, 47, 5, 200);
        }
        k.launch(60, 0, 40, 0, 20);
        Check.due("the first one crosses the last one", k.kite(0, 11), 32);
        Check.due("firstCut(0)", k.firstCut(0), 2);
        Check.due("firstCut(1)", k.firstCut(1), 5);
        Check.due("firstCut(2)", k.firstCut(2), 31);
        Check.due("pass(2)", k.pass(2), 32);
        Check.due("count(6)", k.count(6), 5);
        Check.due("of equals the lowest", k.count(5), 0);
        Check.due("kite(5, 8)", k.kite(5, 8), KiteStrings.CUT);
    }

    private static KiteStrings star(int glass, int strength) {
        KiteStrings k = new KiteStrings();
        for (int i = 0; i < 6; i++) {
            k.launch(10 * i, 50 - 10 * i, 40, glass, strength);
        }
        return k;
    }

    private static void allCrossAll() {
        KiteStrings k = star(1, 200);
        Check.due("fifteen crossings", k.count(2), 15);
        k.pass(1);
        for (int i = 0; i < 6; i++) {
            int worn = 0;
            for (int j = 0; j < 6; j++) {
                worn += i == j ? 0 : k.crossing(i, j, 5);
            }
            Check.due("kite(" + i + ", 11)", k.kite(i, 11), 63 ^ 1 << i);
            Check.due("all wear the string of " + i, k.wear(i, 16), worn);
            Check.due("crossing(" + i + ", .., 5)", worn > 5 ? 1 : 0, 1);
        }
        KiteStrings sharp = star(5, 10);
        Check.due("all would be cut", sharp.ifPassed(1, 0), 63);
        Check.due("with thirty points", sharp.ifPassed(1, 1), 30);
        Check.due("firstCut(2)", sharp.firstCut(2), 63);
        Check.due("pass(1)", sharp.pass(1), 63);
        for (int i = 0; i < 6; i++) {
            Check.due("kite(" + i + ", 7)", sharp.kite(i, 7), 5);
        }
        Check.due("count(7)", sharp.count(7), 6);
    }

    private static void strengthIsTheEdge() {
        KiteStrings k = Check.pair(0, 20, 2, 21);
        Check.due("pass(4)", k.pass(4), 0);
        Check.due("wear(0, 16)", k.wear(0, 16), 16);
        Check.due("pass(1)", k.pass(1), 1);
        k = Check.pair(0, 21, 2, 21);
        Check.due("pass(5)", k.pass(5), 0);
        Check.due("wear(0, 16)", k.wear(0, 16), 20);
        Check.due("pass(1)", k.pass(1), 1);
    }
}
