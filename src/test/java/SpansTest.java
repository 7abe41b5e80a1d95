/**
 * The longest times of pass and ifPassed, 200 ticks, and of bestOrder, 50: what comes with the last tick counts, and
 * what comes one tick later does not. Those of firstCut and meets, 300 ticks, are in WhatIfTest.
 */
final class SpansTest {
    private SpansTest() {
    }

    public static void main(String[] args) {
        passGoesToItsEnd();
        ifPassedGoesToItsEnd();
        bestOrderGainsWithTheLastTick();
        bestOrderLosesWithTheLastTick();
        bestOrderBothWithTheLastTick();
        bestOrderOfOneTick();
        Check.end("SpansTest");
    }

    /** The first string is worn by 1 a tick, so that it is cut with the tick of its strength. */
    private static KiteStrings worn(int strength) {
        KiteStrings k = new KiteStrings();
        k.launch(0, 60, 20, 0, strength);
        k.launch(60, 0, 20, 1, 200);
        return k;
    }

    private static void passGoesToItsEnd() {
        KiteStrings k = worn(200);
        Check.due("pass(199)", k.pass(199), 0);
        Check.due("the wear is one less than the strength", k.kite(0, 9), 199);
        Check.due("pass(1)", k.pass(1), 1);
        Check.due("ticks", k.count(3), 200);
        k = worn(200);
        Check.due("pass(200)", k.pass(200), 1);
        Check.due("ticks", k.count(3), 200);
        Check.due("cuts", k.count(7), 1);
        Check.due("points", k.kite(1, 7), 1);
        k = worn(10);
        Check.due("the least strength: pass(9)", k.pass(9), 0);
        Check.due("the least strength: pass(1)", k.pass(1), 1);
        k = worn(11);
        Check.due("a cut on the way: pass(200)", k.pass(200), 1);
        Check.due("a cut on the way: ticks", k.count(3), 200);
        k = worn(200);
        Check.due("pass(0)", k.pass(0), KiteStrings.BAD_VALUE);
        Check.due("pass(201)", k.pass(201), KiteStrings.BAD_VALUE);
        Check.due("no ticks", k.count(3), 0);
    }

    private static void ifPassedGoesToItsEnd() {
        KiteStrings k = worn(200);
        int[][] due = {{0, 1}, {0, 1}, {1, 0}};
        for (int what = 0; what <= 2; what++) {
            Check.due("ifPassed(199, " + what + ")", k.ifPassed(199, what), due[what][0]);
            Check.due("ifPassed(200, " + what + ")", k.ifPassed(200, what), due[what][1]);
            Check.due("ifPassed(0, " + what + ")", k.ifPassed(0, what), KiteStrings.BAD_VALUE);
            Check.due("ifPassed(201, " + what + ")", k.ifPassed(201, what), KiteStrings.BAD_VALUE);
        }
        KiteStrings one = worn(10);
        one.pass(9);
        Check.due("ifPassed(1, 0)", one.ifPassed(1, 0), 1);
        Check.due("ifPassed(1, 1)", one.ifPassed(1, 1), 1);
        Check.due("ifPassed(1, 2)", one.ifPassed(1, 2), 0);
    }

    private static void best(KiteStrings k, int ticks, int dx, int dy, int gain) {
        Check.due("bestOrder(1, " + ticks + ", 0)", k.bestOrder(1, ticks, 0), dx + 10);
        Check.due("bestOrder(1, " + ticks + ", 1)", k.bestOrder(1, ticks, 1), dy + 10);
        Check.due("bestOrder(1, " + ticks + ", 2)", k.bestOrder(1, ticks, 2), gain + 10);
    }

    private static KiteStrings against(int[] first, int dx, int dy, int[] second) {
        KiteStrings k = new KiteStrings();
        k.launch(first[0], first[1], first[2], first[3], first[4]);
        k.launch(second[0], second[1], second[2], second[3], second[4]);
        k.order(0, dx, dy);
        return k;
    }

    private static void pointsAfter(KiteStrings k, int dx, int dy, int ticks, int points, int how) {
        k.order(1, dx, dy);
        k.pass(ticks);
        String what = "after " + ticks + " ticks with the order " + dx + ", " + dy;
        Check.due(what + ": points", k.kite(1, 7), points);
        Check.due(what + ": how it is", k.kite(1, 8), how);
        k.undo();
        k.undo();
    }

    private static void bestOrderGainsWithTheLastTick() {
        KiteStrings k = against(new int[] {4, 39, 33, 0, 134}, -2, -3, new int[] {19, 59, 13, 1, 130});
        best(k, 49, -3, -3, 0);
        best(k, 50, 2, 3, 1);
        pointsAfter(k, 2, 3, 49, 0, KiteStrings.IN_THE_AIR);
        pointsAfter(k, 2, 3, 50, 1, KiteStrings.IN_THE_AIR);
        Check.due("bestOrder(1, 51, 2)", k.bestOrder(1, 51, 2), KiteStrings.BAD_VALUE);
        Check.due("bestOrder(1, 0, 2)", k.bestOrder(1, 0, 2), KiteStrings.BAD_VALUE);
    }

    private static void bestOrderLosesWithTheLastTick() {
        KiteStrings k = against(new int[] {29, 29, 46, 1, 60}, -1, 1, new int[] {28, 0, 28, 0, 20});
        best(k, 49, 0, -1, 0);
        best(k, 50, -3, -3, -2);
        pointsAfter(k, 0, -1, 49, 0, KiteStrings.IN_THE_AIR);
        pointsAfter(k, 0, -1, 50, 0, KiteStrings.CUT);
    }

    private static void bestOrderBothWithTheLastTick() {
        KiteStrings k = against(new int[] {39, 4, 14, 2, 78}, 3, -1, new int[] {40, 22, 9, 2, 40});
        best(k, 49, 2, -1, 0);
        best(k, 50, -2, -1, -1);
        pointsAfter(k, -2, -1, 50, 1, KiteStrings.CUT);
    }

    private static void bestOrderOfOneTick() {
        KiteStrings k = new KiteStrings();
        k.launch(20, 20, 40, 0, 10);
        k.launch(40, 24, 20, 5, 200);
        best(k, 1, -3, -3, 0);
        k.order(1, -1, 0);
        k.pass(1);
        best(k, 1, -3, -3, 0);
        k.order(1, -1, 0);
        k.pass(1);
        best(k, 1, -3, -3, 1);
    }
}
