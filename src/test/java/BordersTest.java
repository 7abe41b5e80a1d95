/** The borders of the sky: each place and each step in both directions, and what a turn means for the rest of a tick. */
final class BordersTest {
    private BordersTest() {
    }

    public static void main(String[] args) {
        eachPlaceAndStepAcross();
        eachPlaceAndStepUp();
        bothWaysAreOnTheirOwn();
        toAndFro();
        aTurnIsKept();
        anOrderAgainstATurn();
        whoIsDownDoesNotTurn();
        theSlidingIsTheTurnedOne();
        whatIfsTurnToo();
        Check.end("BordersTest");
    }

    private static void where(String what, KiteStrings k, int x, int y, int dx, int dy) {
        Check.due(what + ": x", k.kite(0, 1), x);
        Check.due(what + ": y", k.kite(0, 2), y);
        Check.due(what + ": dx", k.kite(0, 3), dx + 10);
        Check.due(what + ": dy", k.kite(0, 4), dy + 10);
    }

    private static KiteStrings at(int x, int y, int dx, int dy) {
        KiteStrings k = new KiteStrings();
        k.launch(30, x, y, 0, 10);
        k.order(0, dx, dy);
        return k;
    }

    private static void eachPlaceAndStepAcross() {
        for (int x = 0; x <= 63; x++) {
            for (int dx = -3; dx <= 3; dx++) {
                boolean turns = x < 3 && dx < -x || x > 60 && dx > 63 - x;
                KiteStrings k = at(x, 20, dx, 1);
                k.pass(1);
                where("from x " + x + " by " + dx, k, turns ? x : x + dx, 21, turns ? -dx : dx, 1);
            }
        }
    }

    private static void eachPlaceAndStepUp() {
        for (int y = 1; y <= 47; y++) {
            for (int dy = -3; dy <= 3; dy++) {
                boolean turns = y < 4 && dy < 1 - y || y > 44 && dy > 47 - y;
                KiteStrings k = at(20, y, -1, dy);
                k.pass(1);
                where("from y " + y + " by " + dy, k, 19, turns ? y : y + dy, -1, turns ? -dy : dy);
            }
        }
    }

    private static void bothWaysAreOnTheirOwn() {
        int[] across = {0, 63};
        int[] heights = {1, 47};
        for (int x : across) {
            for (int y : heights) {
                int out = x == 0 ? -2 : 2;
                int up = y == 1 ? -3 : 3;
                KiteStrings both = at(x, y, out, up);
                both.pass(1);
                where("into the corner " + x + ", " + y, both, x, y, -out, -up);
                both.pass(1);
                where("out of the corner " + x + ", " + y, both, x - out, y - up, -out, -up);
                KiteStrings side = at(x, y, out, -up);
                side.pass(1);
                where("along the side " + x + ", " + y, side, x, y - up, -out, -up);
                KiteStrings edge = at(x, y, -out, up);
                edge.pass(1);
                where("along the edge " + x + ", " + y, edge, x - out, y, -out, -up);
                KiteStrings rest = at(x, y, 0, 0);
                rest.pass(9);
                where("at rest in the corner " + x + ", " + y, rest, x, y, 0, 0);
            }
        }
    }

    /** From one border to the other and back: 63 across in 21 ticks of 3, 46 up in 23 ticks of 2, and a tick to turn. */
    private static void toAndFro() {
        KiteStrings across = at(0, 20, 3, 0);
        across.pass(21);
        where("at the far side", across, 63, 20, 3, 0);
        across.pass(1);
        where("turned at the far side", across, 63, 20, -3, 0);
        across.pass(21);
        where("at the near side", across, 0, 20, -3, 0);
        across.pass(1);
        where("turned at the near side", across, 0, 20, 3, 0);
        KiteStrings up = at(20, 1, 0, 2);
        up.pass(23);
        where("at the top", up, 20, 47, 0, 2);
        up.pass(1);
        where("turned at the top", up, 20, 47, 0, -2);
        up.pass(23);
        where("at the bottom", up, 20, 1, 0, -2);
        up.pass(1);
        where("turned at the bottom", up, 20, 1, 0, 2);
    }

    private static void aTurnIsKept() {
        KiteStrings k = at(62, 46, 2, 3);
        k.pass(1);
        k.save(0);
        k.pass(4);
        where("later", k, 54, 34, -2, -3);
        k.restore(0);
        where("restored", k, 62, 46, -2, -3);
        k.undo();
        k.undo();
        where("undone", k, 62, 46, -2, -3);
        k.undo();
        where("before the turn", k, 62, 46, 2, 3);
        k.pass(1);
        k.round();
        where("a new round", k, 62, 46, 0, 0);
    }

    /** What an order answers is by how much it differs from what the turn has made of the one before. */
    private static void anOrderAgainstATurn() {
        KiteStrings k = at(63, 47, 3, 2);
        k.pass(1);
        Check.due("the order from before the turn", k.order(0, 3, 2), 64);
        k.pass(1);
        Check.due("the turned order", k.order(0, -3, -2), 0);
    }

    private static void whoIsDownDoesNotTurn() {
        KiteStrings landed = at(63, 47, 3, 3);
        landed.land(0);
        landed.pass(5);
        where("landed", landed, 63, 47, 3, 3);
        KiteStrings cut = new KiteStrings();
        cut.launch(10, 60, 40, 0, 10);
        cut.launch(60, 10, 40, 5, 200);
        cut.order(0, 3, 0);
        Check.due("cut with the first tick", cut.pass(1), 1);
        where("cut", cut, 63, 40, 3, 0);
        Check.due("no second cut", cut.pass(5), 0);
        where("cut, later", cut, 63, 40, 3, 0);
    }

    private static void theSlidingIsTheTurnedOne() {
        KiteStrings k = new KiteStrings();
        k.launch(10, 62, 40, 1, 200);
        k.launch(63, 10, 46, 1, 200);
        k.order(0, 3, 0);
        k.order(1, 0, 3);
        Check.due("the sliding before the turns", k.crossing(0, 1, 4), 7);
        k.order(1, 3, 3);
        Check.due("the sliding of like steps", k.crossing(0, 1, 4), 4);
        k.pass(1);
        Check.due("the sliding after the turns", k.crossing(0, 1, 4), 10);
        Check.due("by this the string is worn", k.kite(0, 9), k.crossing(0, 1, 3) == 1 ? 20 : 10);
    }

    private static void whatIfsTurnToo() {
        KiteStrings k = new KiteStrings();
        k.launch(20, 20, 40, 0, 200);
        k.launch(40, 61, 20, 0, 200);
        k.order(1, 3, 0);
        // 61 turns with the first tick, and comes to 58, 55, .. 22, 19 with the next 14.
        Check.due("not across yet", k.ifPassed(14, 2), 0);
        Check.due("across", k.ifPassed(15, 2), 1);
        Check.due("with which tick", k.meets(0, 1), 15);
    }
}
