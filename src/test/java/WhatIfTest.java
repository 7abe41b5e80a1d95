/** Promises 13 to 16: what if. */
final class WhatIfTest {
    private static final int LEAST = Integer.MIN_VALUE;
    private static final int MOST = Integer.MAX_VALUE;

    private WhatIfTest() {
    }

    public static void main(String[] args) {
        ifPassedTells();
        ifPassedErrors();
        firstCutTells();
        firstCutHasAnEnd();
        firstCutErrors();
        meetsTells();
        meetsInTheTickOfACut();
        meetsNotAfterACut();
        meetsHasAnEnd();
        meetsErrors();
        bestOrderOfEqualsIsTheLeast();
        bestOrderSeeksPoints();
        bestOrderFleesTheCut();
        bestOrderLooksAsFarAsTold();
        bestOrderOfSeveralIsTheLeast();
        bestOrderErrors();
        nothingChanges();
        Check.end("WhatIfTest");
    }

    private static void ifPassedTells() {
        KiteStrings k = Check.pair(5, 200, 1, 20);
        Check.due("pair: crossings after a tick", k.ifPassed(1, 2), 1);
        Check.due("pair: cut after a tick", k.ifPassed(1, 0), 0);
        Check.due("pair: cut after two", k.ifPassed(2, 0), 2);
        Check.due("pair: points after two", k.ifPassed(2, 1), 1);
        Check.due("pair: crossings after two", k.ifPassed(2, 2), 0);
        Check.due("pair: cut after 200", k.ifPassed(200, 0), 2);
        k.pass(2);
        Check.due("points of before do not count", k.ifPassed(2, 1), 0);
        Check.due("cuts of before do not count", k.ifPassed(2, 0), 0);
        KiteStrings both = Check.pair(5, 10, 5, 10);
        Check.due("both are cut", both.ifPassed(1, 0), 3);
        Check.due("both get a point", both.ifPassed(1, 1), 2);
        KiteStrings moving = new KiteStrings();
        moving.launch(20, 20, 40, 0, 200);
        moving.launch(40, 22, 20, 0, 200);
        moving.order(1, -1, 0);
        Check.due("at its end", moving.ifPassed(2, 2), 0);
        Check.due("through it", moving.ifPassed(3, 2), 1);
        Check.due("an empty sky", new KiteStrings().ifPassed(200, 0), 0);
    }

    private static void ifPassedErrors() {
        KiteStrings k = Check.pair(5, 200, 1, 20);
        int[] wrong = {0, 201, -1, LEAST, MOST};
        for (int ticks : wrong) {
            Check.due("ifPassed(" + ticks + ", 0)", k.ifPassed(ticks, 0), KiteStrings.BAD_VALUE);
        }
        Check.due("ifPassed(1, 3)", k.ifPassed(1, 3), KiteStrings.BAD_VALUE);
        Check.due("ifPassed(1, -1)", k.ifPassed(1, -1), KiteStrings.BAD_VALUE);
    }

    private static void firstCutTells() {
        KiteStrings k = Check.pair(5, 200, 1, 21);
        Check.due("firstCut(0)", k.firstCut(0), 3);
        Check.due("firstCut(1)", k.firstCut(1), 1);
        Check.due("firstCut(2)", k.firstCut(2), 1);
        k.pass(2);
        Check.due("later: firstCut(0)", k.firstCut(0), 1);
        k.pass(1);
        Check.due("after it: firstCut(0)", k.firstCut(0), KiteStrings.NONE);
        Check.due("after it: firstCut(1)", k.firstCut(1), KiteStrings.NONE);
        Check.due("after it: firstCut(2)", k.firstCut(2), KiteStrings.NONE);
        KiteStrings both = Check.pair(5, 20, 5, 20);
        Check.due("both: firstCut(1)", both.firstCut(1), 0);
        Check.due("both: firstCut(2)", both.firstCut(2), 3);
        KiteStrings again = Check.pair(5, 200, 5, 20);
        again.launch(63, 63, 40, 0, 10);
        again.pass(2);
        Check.due("the first one scored", again.kite(0, 7), 1);
        again.round();
        again.land(0);
        again.step(2, 0);
        again.order(2, -3, 0);
        Check.due("now the second one will", again.firstCut(2), 2);
        KiteStrings three = new KiteStrings();
        three.launch(20, 20, 40, 0, 10);
        three.launch(40, 0, 40, 5, 200);
        three.launch(0, 40, 40, 0, 200);
        Check.due("three: firstCut(2)", three.firstCut(2), 6);
    }

    /** A kite that is crossed once in a time, by glass 1 at an angle that is not steep, and is cut late. */
    private static KiteStrings slowPair(int strength) {
        KiteStrings k = new KiteStrings();
        k.launch(0, 60, 20, 0, strength);
        k.launch(60, 0, 20, 1, 200);
        return k;
    }

    private static void firstCutHasAnEnd() {
        KiteStrings slow = new KiteStrings();
        slow.launch(0, 60, 20, 0, 200);
        slow.launch(60, 0, 20, 1, 200);
        Check.due("one more a tick: firstCut(0)", slow.firstCut(0), 200);
        // They cross in a part of the ticks alone, so that the cut comes with the 301st.
        KiteStrings late = new KiteStrings();
        late.launch(20, 20, 40, 0, 200);
        late.launch(40, 15, 20, 1, 200);
        late.order(1, 3, 0);
        Check.due("in 301 ticks: firstCut(0)", late.firstCut(0), KiteStrings.NONE);
        late.pass(1);
        Check.due("in 300 ticks: firstCut(0)", late.firstCut(0), 300);
        Check.due("in 300 ticks: firstCut(1)", late.firstCut(1), 0);
        Check.due("in 300 ticks: firstCut(2)", late.firstCut(2), 2);
        Check.due("pass(200)", late.pass(200), 0);
        Check.due("pass(99)", late.pass(99), 0);
        Check.due("pass(1)", late.pass(1), 1);
    }

    private static void firstCutErrors() {
        KiteStrings k = Check.pair(5, 200, 1, 21);
        int[] wrong = {-1, 3, LEAST, MOST};
        for (int what : wrong) {
            Check.due("firstCut(" + what + ")", k.firstCut(what), KiteStrings.BAD_VALUE);
        }
    }

    private static void meetsTells() {
        KiteStrings k = new KiteStrings();
        k.launch(20, 20, 40, 0, 200);
        k.launch(40, 22, 20, 0, 200);
        k.order(1, -1, 0);
        Check.due("meets(0, 1)", k.meets(0, 1), 3);
        Check.due("meets(1, 0)", k.meets(1, 0), 3);
        k.pass(2);
        Check.due("later: meets(0, 1)", k.meets(0, 1), 1);
        k.pass(1);
        Check.due("now: meets(0, 1)", k.meets(0, 1), 0);
        k.order(1, 1, 0);
        Check.due("still now: meets(0, 1)", k.meets(0, 1), 0);
        k.pass(1);
        Check.due("by way of the border: meets(0, 1)", k.meets(0, 1), 43 + 1 + 44);
    }

    private static void meetsInTheTickOfACut() {
        KiteStrings k = new KiteStrings();
        k.launch(20, 20, 40, 5, 200);
        k.launch(40, 20, 20, 0, 10);
        k.order(1, -1, 0);
        Check.due("the tick cuts it", k.ifPassed(1, 0), 2);
        Check.due("but they have met", k.meets(0, 1), 1);
    }

    private static void meetsNotAfterACut() {
        KiteStrings k = new KiteStrings();
        k.launch(20, 20, 40, 0, 200);
        k.launch(40, 22, 20, 0, 10);
        k.launch(30, 30, 40, 5, 200);
        k.order(1, -1, 0);
        Check.due("it is cut with the first tick", k.firstCut(0), 1);
        Check.due("so they never meet", k.meets(0, 1), KiteStrings.NONE);
        k.land(2);
        Check.due("nobody cuts it", k.meets(0, 1), 3);
    }

    private static void meetsHasAnEnd() {
        KiteStrings k = new KiteStrings();
        k.launch(20, 20, 40, 0, 200);
        k.launch(40, 60, 20, 0, 200);
        Check.due("at rest", k.meets(0, 1), KiteStrings.NONE);
        // One goes to and fro in both directions until it comes by in the 301st tick.
        KiteStrings late = new KiteStrings();
        late.launch(53, 56, 27, 0, 10);
        late.launch(17, 23, 6, 0, 10);
        late.order(0, -1, -1);
        Check.due("in 301 ticks", late.meets(0, 1), KiteStrings.NONE);
        late.pass(1);
        Check.due("in 300 ticks", late.meets(0, 1), 300);
        late.pass(200);
        late.pass(99);
        Check.due("not before it", late.crossing(0, 1, 0), 0);
        late.pass(1);
        Check.due("with it", late.crossing(0, 1, 0), 1);
    }

    private static void meetsErrors() {
        KiteStrings k = Check.pair(3, 200, 2, 200);
        k.launch(1, 1, 1, 1, 10);
        k.land(2);
        Check.due("meets(0, 3)", k.meets(0, 3), KiteStrings.NO_SUCH);
        Check.due("meets(-1, 0)", k.meets(-1, 0), KiteStrings.NO_SUCH);
        Check.due("meets(7, 7)", k.meets(7, 7), KiteStrings.NO_SUCH);
        Check.due("meets(1, 1)", k.meets(1, 1), KiteStrings.BAD_VALUE);
        Check.due("meets(2, 2)", k.meets(2, 2), KiteStrings.BAD_VALUE);
        Check.due("meets(0, 2)", k.meets(0, 2), KiteStrings.NOT_POSSIBLE);
        Check.due("meets(2, 0)", k.meets(2, 0), KiteStrings.NOT_POSSIBLE);
    }

    private static void best(KiteStrings k, int kite, int ticks, int dx, int dy, int gain) {
        String what = "bestOrder(" + kite + ", " + ticks + ", ";
        Check.due(what + "0)", k.bestOrder(kite, ticks, 0), dx + 10);
        Check.due(what + "1)", k.bestOrder(kite, ticks, 1), dy + 10);
        Check.due(what + "2)", k.bestOrder(kite, ticks, 2), gain + 10);
    }

    private static void bestOrderOfEqualsIsTheLeast() {
        KiteStrings k = new KiteStrings();
        k.launch(30, 30, 20, 0, 10);
        best(k, 0, 1, -3, -3, 0);
        best(k, 0, 50, -3, -3, 0);
        k.order(0, 2, 2);
        best(k, 0, 50, -3, -3, 0);
    }

    private static void bestOrderSeeksPoints() {
        // The other string stands at x = 20; only a step to the left by 2 or more brings this one through it at once.
        KiteStrings k = new KiteStrings();
        k.launch(20, 20, 40, 0, 10);
        k.launch(40, 21, 20, 5, 200);
        best(k, 1, 1, -3, -3, 1);
        k.order(1, -2, 0);
        k.pass(1);
        Check.due("it got a point", k.kite(1, 7), 1);
        best(k, 1, 50, -3, -3, 0);
    }

    private static void bestOrderFleesTheCut() {
        // Where it is, it is cut in a tick; two steps to the right and more take it away.
        KiteStrings k = new KiteStrings();
        k.launch(20, 20, 40, 5, 200);
        k.launch(40, 18, 20, 0, 10);
        Check.due("at rest it is cut", k.ifPassed(1, 0), 2);
        best(k, 1, 1, 2, -3, 0);
        // So far through it nothing helps: with all orders it still crosses the other one.
        KiteStrings lost = new KiteStrings();
        lost.launch(20, 20, 40, 5, 200);
        lost.launch(40, 5, 20, 0, 10);
        best(lost, 1, 1, -3, -3, -2);
        KiteStrings both = new KiteStrings();
        both.launch(20, 20, 40, 5, 10);
        both.launch(40, 5, 20, 5, 10);
        best(both, 1, 1, -3, -3, -1);
    }

    private static void bestOrderLooksAsFarAsTold() {
        KiteStrings k = new KiteStrings();
        k.launch(20, 20, 40, 0, 10);
        k.launch(40, 30, 20, 5, 200);
        best(k, 1, 3, -3, -3, 0);
        Check.due("four ticks bring it there", k.bestOrder(1, 4, 2), 11);
        KiteStrings right = new KiteStrings();
        right.launch(40, 40, 40, 0, 10);
        right.launch(20, 30, 20, 5, 200);
        best(right, 1, 3, -3, -3, 0);
        best(right, 1, 4, 3, -3, 1);
        best(right, 1, 6, 2, -3, 1);
    }

    private static void bestOrderOfSeveralIsTheLeast() {
        // Its end lies on the other string, y = x / 2: at x = 37 it has to be above 18.5 to go through it.
        KiteStrings k = new KiteStrings();
        k.launch(0, 60, 30, 0, 10);
        k.launch(40, 40, 20, 5, 200);
        best(k, 1, 1, -3, -1, 1);
        // Three steps up are just enough here: 16 + 3 is above 18.5, and 16 + 2 is not.
        KiteStrings up = new KiteStrings();
        up.launch(0, 60, 30, 0, 10);
        up.launch(40, 40, 16, 5, 200);
        best(up, 1, 1, -3, 3, 1);
        // At the border it turns, but the order is told as it was given; it still has to rise to go through.
        KiteStrings border = new KiteStrings();
        border.launch(0, 60, 30, 0, 10);
        border.launch(40, 2, 1, 5, 200);
        best(border, 1, 1, -3, 1, 1);
    }

    private static void bestOrderErrors() {
        KiteStrings k = Check.pair(3, 200, 2, 200);
        k.launch(1, 1, 1, 1, 10);
        k.land(2);
        Check.due("bestOrder(3, 1, 0)", k.bestOrder(3, 1, 0), KiteStrings.NO_SUCH);
        Check.due("bestOrder(-1, 0, 0)", k.bestOrder(-1, 0, 0), KiteStrings.NO_SUCH);
        int[] wrong = {0, 51, -1, LEAST, MOST};
        for (int ticks : wrong) {
            Check.due("bestOrder(0, " + ticks + ", 0)", k.bestOrder(0, ticks, 0), KiteStrings.BAD_VALUE);
        }
        Check.due("bestOrder(0, 1, 3)", k.bestOrder(0, 1, 3), KiteStrings.BAD_VALUE);
        Check.due("bestOrder(0, 1, -1)", k.bestOrder(0, 1, -1), KiteStrings.BAD_VALUE);
        Check.due("bestOrder(2, 51, 0)", k.bestOrder(2, 51, 0), KiteStrings.BAD_VALUE);
        Check.due("bestOrder(2, 50, 0)", k.bestOrder(2, 50, 0), KiteStrings.NOT_POSSIBLE);
    }

    private static void nothingChanges() {
        KiteStrings k = Check.pair(5, 200, 1, 20);
        k.launch(30, 30, 30, 3, 100);
        k.order(2, 1, 1);
        k.pass(1);
        Check.write(k, "0:00");
        String before = Check.look(k);
        for (int what = 0; what <= 2; what++) {
            k.ifPassed(200, what);
            k.firstCut(what);
            k.bestOrder(2, 50, what);
        }
        k.meets(0, 1);
        k.meets(0, 2);
        Check.same("after what-ifs", Check.look(k), before);
    }
}
