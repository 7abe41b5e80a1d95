/** Promises 9 to 12: what there is. */
final class LookTest {
    private static final int LEAST = Integer.MIN_VALUE;
    private static final int MOST = Integer.MAX_VALUE;

    private LookTest() {
    }

    public static void main(String[] args) {
        kiteTellsAll();
        kiteErrors();
        wearOfPlaces();
        theLowestOfTheMostWorn();
        wearErrors();
        whoCrosses();
        placesOfCrossings();
        steepness();
        crossingTellsAll();
        crossingErrors();
        countTellsAll();
        countErrors();
        nothingChanges();
        Check.end("LookTest");
    }

    private static void kiteTellsAll() {
        KiteStrings k = Check.pair(3, 100, 2, 12);
        k.order(0, -2, 3);
        int[] due = {10, 50, 40, 8, 13, 3, 100, 0, KiteStrings.IN_THE_AIR, 0, 0, 2};
        for (int what = 0; what < due.length; what++) {
            Check.due("kite(0, " + what + ")", k.kite(0, what), due[what]);
        }
        k.order(0, 0, 0);
        k.pass(1);
        Check.due("kite(0, 9)", k.kite(0, 9), 4);
        Check.due("kite(0, 10)", k.kite(0, 10), 16);
        k.pass(1);
        int[] cut = {50, 10, 40, 10, 10, 2, 12, 0, KiteStrings.CUT, 0, 0, 0};
        for (int what = 0; what < cut.length; what++) {
            Check.due("cut: kite(1, " + what + ")", k.kite(1, what), cut[what]);
        }
        Check.due("kite(0, 7)", k.kite(0, 7), 1);
        Check.due("kite(0, 11)", k.kite(0, 11), 0);
        k.order(0, 3, 1);
        k.land(0);
        int[] landed = {10, 50, 40, 13, 11, 3, 100, 1, KiteStrings.LANDED, 0, 0, 0};
        for (int what = 0; what < landed.length; what++) {
            Check.due("landed: kite(0, " + what + ")", k.kite(0, what), landed[what]);
        }
    }

    private static void kiteErrors() {
        KiteStrings k = new KiteStrings();
        k.launch(1, 1, 1, 1, 10);
        Check.due("kite(1, 0)", k.kite(1, 0), KiteStrings.NO_SUCH);
        Check.due("kite(-1, 12)", k.kite(-1, 12), KiteStrings.NO_SUCH);
        Check.due("kite(6, 0)", k.kite(6, 0), KiteStrings.NO_SUCH);
        Check.due("kite(MOST, 0)", k.kite(MOST, 0), KiteStrings.NO_SUCH);
        Check.due("kite(0, 12)", k.kite(0, 12), KiteStrings.BAD_VALUE);
        Check.due("kite(0, -1)", k.kite(0, -1), KiteStrings.BAD_VALUE);
        Check.due("kite(0, LEAST)", k.kite(0, LEAST), KiteStrings.BAD_VALUE);
        k.land(0);
        Check.due("landed: kite(0, 12)", k.kite(0, 12), KiteStrings.BAD_VALUE);
    }

    private static void wearOfPlaces() {
        KiteStrings k = new KiteStrings();
        k.launch(20, 20, 40, 0, 200);
        k.launch(36, 4, 32, 1, 200);
        k.launch(60, 10, 47, 5, 200);
        k.pass(1);
        Check.due("wear(0, 12)", k.wear(0, 12), 2);
        Check.due("wear(0, 0)", k.wear(0, 0), 0);
        Check.due("wear(0, 31)", k.wear(0, 31), 0);
        Check.due("the greatest wear", k.kite(0, 9), 10);
        Check.due("its place", k.kite(0, 10), k.crossing(0, 2, 1));
        Check.due("wear there", k.wear(0, k.crossing(0, 2, 1)), 10);
    }

    private static void theLowestOfTheMostWorn() {
        KiteStrings k = new KiteStrings();
        k.launch(20, 20, 32, 0, 200);
        k.launch(19, 63, 47, 1, 200);
        Check.due("at the second place", k.crossing(0, 1, 1), 1);
        k.pass(2);
        int worn = k.wear(0, 1);
        Check.due("kite(0, 9)", k.kite(0, 9), worn);
        Check.due("kite(0, 10)", k.kite(0, 10), 1);
        k.step(1, 36);
        k.land(1);
        k.launch(36, 4, 32, 1, 200);
        Check.due("later in the middle", k.crossing(0, 2, 1), 16);
        for (int i = 0; i < 50 && k.wear(0, 16) < worn; i++) {
            k.pass(1);
        }
        Check.due("as much", k.wear(0, 16), worn);
        Check.due("the lowest of both", k.kite(0, 10), 1);
        k.pass(1);
        Check.due("the greatest of both", k.kite(0, 10), 16);
    }

    private static void wearErrors() {
        KiteStrings k = new KiteStrings();
        k.launch(1, 1, 1, 1, 10);
        Check.due("wear(1, 0)", k.wear(1, 0), KiteStrings.NO_SUCH);
        Check.due("wear(-1, 0)", k.wear(-1, 0), KiteStrings.NO_SUCH);
        Check.due("wear(0, 32)", k.wear(0, 32), KiteStrings.NO_SUCH);
        Check.due("wear(0, -1)", k.wear(0, -1), KiteStrings.NO_SUCH);
        Check.due("wear(0, MOST)", k.wear(0, MOST), KiteStrings.NO_SUCH);
        Check.due("wear(0, 31)", k.wear(0, 31), 0);
        k.land(0);
        Check.due("landed: wear(0, 32)", k.wear(0, 32), KiteStrings.NO_SUCH);
        Check.due("landed: wear(0, 0)", k.wear(0, 0), KiteStrings.NOT_POSSIBLE);
    }

    private static void due(String what, int[] first, int[] second, int cross) {
        KiteStrings k = new KiteStrings();
        k.launch(first[0], first[1], first[2], 0, 10);
        k.launch(second[0], second[1], second[2], 0, 10);
        Check.due(what, k.crossing(0, 1, 0), cross);
        Check.due(what + ", seen from the other one", k.crossing(1, 0, 0), cross);
        Check.due(what + ", counted", k.count(2), cross);
        Check.due(what + ", as a set", k.kite(0, 11), cross == 1 ? 2 : 0);
        Check.due(what + ", as the other one's set", k.kite(1, 11), cross);
    }

    private static void whoCrosses() {
        int[] upright = {20, 20, 40};
        due("through it", upright, new int[] {40, 19, 20}, 1);
        due("up to it", upright, new int[] {40, 20, 20}, 0);
        due("short of it", upright, new int[] {40, 21, 20}, 0);
        due("through it from the left", upright, new int[] {10, 21, 20}, 1);
        due("up to it from the left", upright, new int[] {10, 20, 20}, 0);
        due("to its end", upright, new int[] {40, 20, 40}, 0);
        due("above its end", upright, new int[] {40, 10, 47}, 1);
        due("over its end", new int[] {20, 20, 10}, new int[] {40, 10, 47}, 0);
        due("just over its end", new int[] {20, 20, 10}, new int[] {30, 10, 21}, 0);
        due("through its end", new int[] {20, 20, 10}, new int[] {30, 10, 20}, 0);
        due("just under its end", new int[] {20, 20, 10}, new int[] {30, 10, 19}, 1);
        due("from one flyer", upright, new int[] {20, 40, 30}, 0);
        due("on one another", upright, new int[] {20, 20, 20}, 0);
        due("the same", upright, new int[] {20, 20, 40}, 0);
        due("side by side", upright, new int[] {21, 21, 40}, 0);
        due("apart", upright, new int[] {21, 50, 40}, 0);
        due("slanted side by side", new int[] {0, 30, 30}, new int[] {5, 35, 30}, 0);
    }

    private static void places(String what, int[] first, int[] second, int place, int otherPlace) {
        KiteStrings k = new KiteStrings();
        k.launch(first[0], first[1], first[2], 0, 10);
        k.launch(second[0], second[1], second[2], 0, 10);
        Check.due(what + ": the first one", k.crossing(0, 1, 1), place);
        Check.due(what + ": the other one", k.crossing(0, 1, 2), otherPlace);
        Check.due(what + ": turned, the first one", k.crossing(1, 0, 1), otherPlace);
        Check.due(what + ": turned, the other one", k.crossing(1, 0, 2), place);
    }

    private static void placesOfCrossings() {
        int[] upright = {20, 20, 32};
        places("in the middle", upright, new int[] {36, 4, 32}, 16, 16);
        places("just above", upright, new int[] {37, 4, 32}, 16, 16);
        places("just below", upright, new int[] {35, 4, 32}, 15, 15);
        places("at the start", new int[] {20, 20, 47}, new int[] {19, 63, 1}, 0, 0);
        places("near the end", new int[] {20, 20, 20}, new int[] {62, 18, 20}, 30, 30);
        places("at the end", new int[] {20, 20, 20}, new int[] {63, 19, 20}, 31, 31);
        places("not at all", upright, new int[] {21, 37, 32}, KiteStrings.NONE, KiteStrings.NONE);
    }

    private static void steepness() {
        int[][] due = { // the second one's flyer, x, y, and whether it crosses the upright one steeply
            {30, 10, 20, 1}, {30, 9, 20, 1}, {30, 10, 21, 0}, {30, 10, 19, 1}, {10, 30, 20, 1}, {10, 30, 21, 0},
            {18, 22, 40, 0}, {0, 63, 1, 1}};
        for (int[] d : due) {
            KiteStrings k = new KiteStrings();
            k.launch(20, 20, 40, 3, 200);
            k.launch(d[0], d[1], d[2], 2, 200);
            String what = "upright and " + d[0] + " to " + d[1] + ", " + d[2];
            Check.due(what + ": it crosses", k.crossing(0, 1, 0), 1);
            Check.due(what + ": steep", k.crossing(0, 1, 3), d[3]);
            Check.due(what + ": steep, turned", k.crossing(1, 0, 3), d[3]);
            Check.due(what + ": wear", k.crossing(0, 1, 5), 2 * (1 + d[3]));
            Check.due(what + ": wear, turned", k.crossing(1, 0, 5), 3 * (1 + d[3]));
        }
        KiteStrings flat = new KiteStrings();
        flat.launch(0, 60, 20, 3, 200);
        flat.launch(60, 0, 20, 2, 200);
        Check.due("a wide angle is not steep", flat.crossing(0, 1, 3), 0);
    }

    private static void crossingTellsAll() {
        KiteStrings k = Check.pair(3, 200, 2, 200);
        k.order(0, -3, 2);
        k.order(1, 3, -3);
        int[] due = {1, 16, 16, 1, 12, 48};
        for (int what = 0; what < due.length; what++) {
            Check.due("crossing(0, 1, " + what + ")", k.crossing(0, 1, what), due[what]);
        }
        Check.due("crossing(1, 0, 5)", k.crossing(1, 0, 5), 72);
        k.step(0, 63);
        int[] apart = {0, KiteStrings.NONE, KiteStrings.NONE, KiteStrings.NONE, 12, 0};
        for (int what = 0; what < apart.length; what++) {
            Check.due("apart: crossing(0, 1, " + what + ")", k.crossing(0, 1, what), apart[what]);
        }
    }

    private static void crossingErrors() {
        KiteStrings k = Check.pair(3, 200, 2, 200);
        k.launch(1, 1, 1, 1, 10);
        k.land(2);
        Check.due("crossing(0, 3, 0)", k.crossing(0, 3, 0), KiteStrings.NO_SUCH);
        Check.due("crossing(3, 0, 0)", k.crossing(3, 0, 0), KiteStrings.NO_SUCH);
        Check.due("crossing(-1, -1, 9)", k.crossing(-1, -1, 9), KiteStrings.NO_SUCH);
        Check.due("crossing(0, LEAST, 0)", k.crossing(0, LEAST, 0), KiteStrings.NO_SUCH);
        Check.due("crossing(1, 1, 0)", k.crossing(1, 1, 0), KiteStrings.BAD_VALUE);
        Check.due("crossing(2, 2, 0)", k.crossing(2, 2, 0), KiteStrings.BAD_VALUE);
        Check.due("crossing(0, 1, 6)", k.crossing(0, 1, 6), KiteStrings.BAD_VALUE);
        Check.due("crossing(0, 1, -1)", k.crossing(0, 1, -1), KiteStrings.BAD_VALUE);
        Check.due("crossing(0, 2, 6)", k.crossing(0, 2, 6), KiteStrings.BAD_VALUE);
        Check.due("crossing(0, 2, 4)", k.crossing(0, 2, 4), KiteStrings.NOT_POSSIBLE);
        Check.due("crossing(2, 0, 0)", k.crossing(2, 0, 0), KiteStrings.NOT_POSSIBLE);
    }

    private static void countTellsAll() {
        KiteStrings k = Check.pair(5, 200, 5, 20);
        k.launch(30, 30, 30, 0, 10);
        Check.write(k, "0:00;1");
        int[] due = {3, 7, 3, 0, 0, 0, 0, 0, 6, 3};
        for (int what = 0; what < due.length; what++) {
            Check.due("count(" + what + ")", k.count(what), due[what]);
        }
        k.round();
        k.pass(1);
        Check.due("kite 2 is cut by both", k.count(1), 3);
        Check.due("count(6)", k.count(6), 2);
        Check.due("count(7)", k.count(7), 1);
        k.pass(1);
        int[] later = {3, 1, 0, 2, 1, 0, 3, 2, 6, 6};
        for (int what = 0; what < later.length; what++) {
            Check.due("later: count(" + what + ")", k.count(what), later[what]);
        }
        KiteStrings second = Check.pair(0, 10, 5, 200);
        second.pass(1);
        Check.due("the second one leads", second.count(5), 1);
        second.round();
        Check.due("count(4)", second.count(4), 1);
        Check.due("it leads in the next round", second.count(5), 1);
        KiteStrings equal = Check.pair(5, 10, 5, 10);
        equal.pass(1);
        Check.due("of equals the lowest", equal.count(5), 0);
    }

    private static void countErrors() {
        KiteStrings k = new KiteStrings();
        int[] wrong = {-1, 10, LEAST, MOST};
        for (int what : wrong) {
            Check.due("count(" + what + ")", k.count(what), KiteStrings.BAD_VALUE);
        }
    }

    private static void nothingChanges() {
        KiteStrings k = Check.pair(5, 200, 1, 20);
        k.launch(30, 30, 30, 0, 100);
        k.pass(1);
        String before = Check.look(k);
        Check.same("after looking", Check.look(k), before);
        KiteStrings other = Check.pair(5, 200, 1, 20);
        other.launch(30, 30, 30, 0, 100);
        other.pass(1);
        Check.same("looking has no trace", Check.look(other), before);
    }
}
