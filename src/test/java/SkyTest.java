/** Promises 1 to 5 and 7: what changes without ticks. */
final class SkyTest {
    private static final int LEAST = Integer.MIN_VALUE;
    private static final int MOST = Integer.MAX_VALUE;

    private SkyTest() {
    }

    public static void main(String[] args) {
        newObject();
        launchesInOrder();
        launchChecksItsArguments();
        launchTakesTheEdges();
        launchStopsAtSix();
        orderTellsTheChange();
        orderErrors();
        stepMovesTheFlyer();
        stepErrors();
        landTellsTheWear();
        landErrors();
        roundSendsAllUp();
        Check.end("SkyTest");
    }

    private static void newObject() {
        KiteStrings k = new KiteStrings();
        int[] due = {0, 0, 0, 0, 0, KiteStrings.NONE, 0, 0, 0, 0};
        for (int what = 0; what < due.length; what++) {
            Check.due("new: count(" + what + ")", k.count(what), due[what]);
        }
        Check.due("new: undo()", k.undo(), KiteStrings.NOT_POSSIBLE);
        Check.due("new: restore(0)", k.restore(0), KiteStrings.NOT_POSSIBLE);
        Check.due("new: restore(1)", k.restore(1), KiteStrings.NOT_POSSIBLE);
        Check.due("new: kite(0, 0)", k.kite(0, 0), KiteStrings.NO_SUCH);
        Check.due("new: fault()", k.fault(), 0);
        Check.due("new: firstCut(0)", k.firstCut(0), KiteStrings.NONE);
    }

    private static void launchesInOrder() {
        KiteStrings k = new KiteStrings();
        Check.due("launch", k.launch(12, 34, 45, 3, 99), 0);
        Check.due("launch", k.launch(1, 2, 3, 4, 50), 1);
        int[] first = {12, 34, 45, 10, 10, 3, 99, 0, KiteStrings.IN_THE_AIR, 0, 0, 0};
        int[] second = {1, 2, 3, 10, 10, 4, 50, 0, KiteStrings.IN_THE_AIR, 0, 0, 0};
        for (int what = 0; what < first.length; what++) {
            Check.due("launched: kite(0, " + what + ")", k.kite(0, what), first[what]);
            Check.due("launched: kite(1, " + what + ")", k.kite(1, what), second[what]);
        }
        Check.due("launched: count(0)", k.count(0), 2);
        Check.due("launched: count(9)", k.count(9), 2);
    }

    private static void launchChecksItsArguments() {
        int[][] wrong = {
            {-1, 0, 1, 0, 10}, {64, 0, 1, 0, 10}, {0, -1, 1, 0, 10}, {0, 64, 1, 0, 10}, {0, 0, 0, 0, 10},
            {0, 0, 48, 0, 10}, {0, 0, 1, -1, 10}, {0, 0, 1, 6, 10}, {0, 0, 1, 0, 9}, {0, 0, 1, 0, 201},
            {LEAST, 0, 1, 0, 10}, {0, MOST, 1, 0, 10}, {0, 0, LEAST, 0, 10}, {0, 0, 1, MOST, 10}, {0, 0, 1, 0, LEAST}};
        KiteStrings k = new KiteStrings();
        for (int[] a : wrong) {
            Check.due("launch(" + a[0] + ", " + a[1] + ", " + a[2] + ", " + a[3] + ", " + a[4] + ")",
                k.launch(a[0], a[1], a[2], a[3], a[4]), KiteStrings.BAD_VALUE);
        }
        Check.due("wrong launches: count(0)", k.count(0), 0);
        Check.due("wrong launches: count(9)", k.count(9), 0);
    }

    private static void launchTakesTheEdges() {
        KiteStrings k = new KiteStrings();
        Check.due("launch at the least", k.launch(0, 0, 1, 0, 10), 0);
        Check.due("launch at the most", k.launch(63, 63, 47, 5, 200), 1);
        Check.due("kite(1, 2)", k.kite(1, 2), 47);
        Check.due("kite(1, 6)", k.kite(1, 6), 200);
    }

    private static void launchStopsAtSix() {
        KiteStrings k = new KiteStrings();
        for (int i = 0; i < 6; i++) {
            Check.due("launch " + i, k.launch(i, i, 1, 0, 10), i);
        }
        String before = Check.look(k);
        Check.due("a seventh", k.launch(0, 0, 1, 0, 10), KiteStrings.TOO_MANY);
        Check.due("a wrong seventh", k.launch(0, 0, 0, 0, 10), KiteStrings.BAD_VALUE);
        Check.same("after a seventh", Check.look(k), before);
        k.undo();
        Check.due("a seventh is not recorded", k.count(0), 5);
        Check.due("there is room again", k.launch(9, 9, 9, 0, 10), 5);
    }

    private static void orderTellsTheChange() {
        KiteStrings k = new KiteStrings();
        k.launch(5, 5, 5, 0, 10);
        Check.due("order(0, 3, -2)", k.order(0, 3, -2), 32);
        Check.due("kite(0, 3)", k.kite(0, 3), 13);
        Check.due("kite(0, 4)", k.kite(0, 4), 8);
        Check.due("order(0, -3, 3)", k.order(0, -3, 3), 65);
        Check.due("order(0, -3, 3)", k.order(0, -3, 3), 0);
        Check.due("an order without a difference is a change", k.count(9), 4);
        Check.due("an order does not move", k.kite(0, 1), 5);
    }

    private static void orderErrors() {
        KiteStrings k = new KiteStrings();
        k.launch(5, 5, 5, 0, 10);
        k.launch(6, 6, 6, 0, 10);
        k.land(1);
        String before = Check.look(k);
        Check.due("order(2, 0, 0)", k.order(2, 0, 0), KiteStrings.NO_SUCH);
        Check.due("order(-1, 9, 9)", k.order(-1, 9, 9), KiteStrings.NO_SUCH);
        Check.due("order(MOST, 0, 0)", k.order(MOST, 0, 0), KiteStrings.NO_SUCH);
        Check.due("order(0, 4, 0)", k.order(0, 4, 0), KiteStrings.BAD_VALUE);
        Check.due("order(0, -4, 0)", k.order(0, -4, 0), KiteStrings.BAD_VALUE);
        Check.due("order(0, 0, 4)", k.order(0, 0, 4), KiteStrings.BAD_VALUE);
        Check.due("order(0, 0, LEAST)", k.order(0, 0, LEAST), KiteStrings.BAD_VALUE);
        Check.due("order(1, 4, 0)", k.order(1, 4, 0), KiteStrings.BAD_VALUE);
        Check.due("order(1, 0, 0)", k.order(1, 0, 0), KiteStrings.NOT_POSSIBLE);
        Check.same("after wrong orders", Check.look(k), before);
    }

    private static void stepMovesTheFlyer() {
        KiteStrings k = Check.pair(1, 100, 2, 100);
        k.pass(3);
        Check.due("step(0, 63)", k.step(0, 63), 10);
        Check.due("kite(0, 0)", k.kite(0, 0), 63);
        Check.due("step(0, 0)", k.step(0, 0), 63);
        Check.due("kite(0, 0)", k.kite(0, 0), 0);
        Check.due("the wear stays", k.wear(0, 16), 12);
        Check.due("the place stays", k.kite(0, 1), 50);
        Check.due("step is a change", k.count(9), 5);
    }

    private static void stepErrors() {
        KiteStrings k = new KiteStrings();
        k.launch(5, 5, 5, 0, 10);
        k.launch(6, 6, 6, 0, 10);
        k.land(1);
        String before = Check.look(k);
        Check.due("step(2, 0)", k.step(2, 0), KiteStrings.NO_SUCH);
        Check.due("step(-1, 64)", k.step(-1, 64), KiteStrings.NO_SUCH);
        Check.due("step(0, 64)", k.step(0, 64), KiteStrings.BAD_VALUE);
        Check.due("step(0, -1)", k.step(0, -1), KiteStrings.BAD_VALUE);
        Check.due("step(1, -1)", k.step(1, -1), KiteStrings.BAD_VALUE);
        Check.due("step(1, 0)", k.step(1, 0), KiteStrings.NOT_POSSIBLE);
        Check.same("after wrong steps", Check.look(k), before);
    }

    private static void landTellsTheWear() {
        KiteStrings k = Check.pair(3, 100, 2, 100);
        k.order(0, 1, 1);
        k.order(0, 0, 0);
        k.pass(4);
        Check.due("land(0)", k.land(0), 16);
        Check.due("kite(0, 8)", k.kite(0, 8), KiteStrings.LANDED);
        Check.due("kite(0, 9)", k.kite(0, 9), 0);
        Check.due("count(1)", k.count(1), 2);
        Check.due("count(2)", k.count(2), 0);
        Check.due("a landed kite is not cut", k.count(7), 0);
        Check.due("land(1)", k.land(1), 24);
        Check.due("land is a change", k.count(9), 6);
        int x = k.kite(0, 1);
        k.pass(3);
        Check.due("a landed kite does not move", k.kite(0, 1), x);
    }

    private static void landErrors() {
        KiteStrings k = Check.pair(5, 200, 5, 10);
        k.pass(1);
        Check.due("kite(1, 8)", k.kite(1, 8), KiteStrings.CUT);
        k.land(0);
        String before = Check.look(k);
        Check.due("land(2)", k.land(2), KiteStrings.NO_SUCH);
        Check.due("land(-1)", k.land(-1), KiteStrings.NO_SUCH);
        Check.due("land of a cut kite", k.land(1), KiteStrings.NOT_POSSIBLE);
        Check.due("land of a landed kite", k.land(0), KiteStrings.NOT_POSSIBLE);
        Check.same("after wrong landings", Check.look(k), before);
    }

    private static void roundSendsAllUp() {
        KiteStrings k = Check.pair(5, 200, 5, 10);
        k.launch(30, 30, 30, 1, 20);
        k.launch(3, 4, 5, 0, 20);
        k.order(0, 1, -1);
        k.order(1, 2, 0);
        k.step(0, 12);
        k.pass(3);
        k.land(2);
        k.order(3, -2, 2);
        Check.due("a cut before the round", k.count(7) > 0 ? 1 : 0, 1);
        int points = k.count(6);
        int cuts = k.count(7);
        Check.due("round()", k.round(), 1);
        int[][] due = {
            {10, 50, 40, 10, 10, 5, 200}, {50, 10, 40, 10, 10, 5, 10},
            {30, 30, 30, 10, 10, 1, 20}, {3, 4, 5, 10, 10, 0, 20}};
        for (int kite = 0; kite < due.length; kite++) {
            for (int what = 0; what < due[kite].length; what++) {
                Check.due("a new round: kite(" + kite + ", " + what + ")", k.kite(kite, what), due[kite][what]);
            }
            Check.due("a new round: kite(" + kite + ", 8)", k.kite(kite, 8), KiteStrings.IN_THE_AIR);
            for (int place = 0; place < 32; place++) {
                Check.due("a new round: wear(" + kite + ", " + place + ")", k.wear(kite, place), 0);
            }
        }
        Check.due("points stay", k.count(6), points);
        Check.due("cuts stay", k.count(7), cuts);
        Check.due("ticks stay", k.count(3), 3);
        Check.due("count(4)", k.count(4), 1);
        Check.due("round() again", k.round(), 2);
        KiteStrings six = new KiteStrings();
        for (int i = 0; i < 6; i++) {
            six.launch(20, 20, 40, 0, 10);
            six.order(i, 1, 1);
            six.land(i);
        }
        six.round();
        Check.due("all six are in the air", six.count(1), 63);
        for (int i = 0; i < 6; i++) {
            Check.due("kite " + i + " is at rest", six.kite(i, 3), 10);
        }
        KiteStrings low = new KiteStrings();
        low.launch(20, 20, 47, 0, 200);
        low.launch(19, 63, 1, 5, 200);
        low.pass(2);
        Check.due("the first place is worn", low.wear(0, 0) > 0 ? 1 : 0, 1);
        low.round();
        Check.due("not in the new round", low.wear(0, 0), 0);
        Check.due("round() in an empty sky", new KiteStrings().round(), 1);
    }
}
