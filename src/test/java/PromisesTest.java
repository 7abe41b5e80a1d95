/** The document's promises from 1 to 22, sentence by sentence. */
final class PromisesTest {
    private static final int NO_SUCH = KiteStrings.NO_SUCH;
    private static final int BAD_VALUE = KiteStrings.BAD_VALUE;
    private static final int BAD_TEXT = KiteStrings.BAD_TEXT;
    private static final int TOO_MANY = KiteStrings.TOO_MANY;
    private static final int NOT_POSSIBLE = KiteStrings.NOT_POSSIBLE;
    private static final int NONE = KiteStrings.NONE;

    private PromisesTest() {
    }

    public static void main(String[] args) {
        aNewObject();
        launch();
        order();
        step();
        land();
        pass();
        round();
        carryOut();
        carryOutIsOneChange();
        kite();
        wear();
        crossing();
        count();
        ifPassed();
        firstCut();
        meets();
        bestOrder();
        bestOrderOfSeveral();
        put();
        wipe();
        fault();
        undo();
        undoKeepsSix();
        save();
        restore();
        Words.end("PromisesTest", args);
    }

    private static KiteStrings sky(int[]... kites) {
        KiteStrings k = new KiteStrings();
        for (int[] a : kites) {
            k.launch(a[0], a[1], a[2], a[3], a[4]);
        }
        return k;
    }

    /** Kite 0 and kite 1 cross steeply in the middle of both; kite 2 is landed, and there is no kite 3. */
    private static KiteStrings three() {
        KiteStrings k = Check.pair(3, 100, 2, 100);
        k.launch(60, 61, 20, 1, 50);
        k.land(2);
        return k;
    }

    interface Call {
        int with(int value);
    }

    /** The values from least to most are taken, and those beside them are not. */
    private static void range(String words, int least, int most, int error, Call call) {
        Words.says(words);
        int[] out = {least - 1, most + 1, least - 1000, most + 1000, Integer.MIN_VALUE, Integer.MAX_VALUE};
        for (int value : out) {
            Words.due("with " + value, call.with(value), error);
        }
        int[] in = {least, most, (least + most) / 2};
        for (int value : in) {
            int answer = call.with(value);
            Words.due("with " + value, answer >= 0 || answer == NONE ? 1 : 0, 1);
        }
    }

    // ---- promises 1 to 8: changes

    private static void aNewObject() {
        Words.says("`KiteStrings()`: Creates an empty sky.");
        KiteStrings k = new KiteStrings();
        int[] due = {0, 0, 0, 0, 0, NONE, 0, 0, 0, 0};
        for (int what = 0; what < due.length; what++) {
            Words.due("count(" + what + ")", k.count(what), due[what]);
        }
        Words.due("kite(0, 0)", k.kite(0, 0), NO_SUCH);
        Words.due("undo()", k.undo(), NOT_POSSIBLE);
        Words.due("restore(0)", k.restore(0), NOT_POSSIBLE);
        Words.due("restore(1)", k.restore(1), NOT_POSSIBLE);
        Words.due("fault()", k.fault(), 0);
    }

    private static void launch() {
        Words.says("`int launch(int flyer, int x, int y, int glass, int strength)`: Launches a kite. This is a change.");
        KiteStrings k = new KiteStrings();
        k.launch(12, 34, 45, 3, 99);
        int[] due = {12, 34, 45, 10, 10, 3, 99, 0, 0, 0, 0, 0};
        for (int what = 0; what < due.length; what++) {
            Words.due("kite(0, " + what + ")", k.kite(0, what), due[what]);
        }
        Words.due("count(9)", k.count(9), 1);
        k.undo();
        Words.due("undone: count(0)", k.count(0), 0);
        range("- `flyer`: 0 to 63", 0, 63, BAD_VALUE, value -> three().launch(value, 5, 5, 2, 20));
        range("- `x`: 0 to 63", 0, 63, BAD_VALUE, value -> three().launch(5, value, 5, 2, 20));
        range("- `y`: 1 to 47", 1, 47, BAD_VALUE, value -> three().launch(5, 5, value, 2, 20));
        range("- `glass`: 0 to 5", 0, 5, BAD_VALUE, value -> three().launch(5, 5, 5, value, 20));
        range("- `strength`: 10 to 200", 10, 200, BAD_VALUE, value -> three().launch(5, 5, 5, 2, value));
        Words.says("Returns its number; BAD_VALUE if an argument is out of range; TOO_MANY if there are 6.");
        KiteStrings six = new KiteStrings();
        for (int i = 0; i < 6; i++) {
            Words.due("launch", six.launch(5, 5, 5, 2, 20), i);
        }
        Words.due("a seventh", six.launch(5, 5, 5, 2, 20), TOO_MANY);
        Words.due("a wrong seventh", six.launch(5, 5, 5, 2, 9), BAD_VALUE);
        six.land(3);
        Words.due("landed ones count", six.launch(5, 5, 5, 2, 20), TOO_MANY);
        six.undo();
        six.undo();
        Words.due("an undone one does not", six.launch(5, 5, 5, 2, 20), 5);
    }

    private static void order() {
        Words.says("`int order(int kite, int dx, int dy)`: Orders a kite to move. This is a change.");
        KiteStrings k = three();
        k.order(1, -2, 3);
        Words.due("kite(1, 3)", k.kite(1, 3), 8);
        Words.due("kite(1, 4)", k.kite(1, 4), 13);
        Words.due("kite(0, 3)", k.kite(0, 3), 10);
        Words.due("it has not moved yet", k.kite(1, 1), 10);
        Words.due("count(9)", k.count(9), 5);
        k.undo();
        Words.due("undone: kite(1, 3)", k.kite(1, 3), 10);
        range("- `dx`: -3 to 3", -3, 3, BAD_VALUE, value -> three().order(0, value, 0));
        range("- `dy`: -3 to 3", -3, 3, BAD_VALUE, value -> three().order(0, 0, value));
        Words.says("Returns 10 times by how much its dx is another one then, and by how much its dy is (without signs); "
            + "NO_SUCH if there is no such kite; BAD_VALUE if a step is out of range; NOT_POSSIBLE if it is not in the "
            + "air.");
        int[][] due = {{3, -2, 32}, {-3, 3, 65}, {-3, 3, 0}, {-1, 3, 20}, {-1, -1, 4}, {0, 0, 11}};
        for (int[] d : due) {
            Words.due("order(0, " + d[0] + ", " + d[1] + ")", k.order(0, d[0], d[1]), d[2]);
        }
        Words.due("order(3, 0, 0)", k.order(3, 0, 0), NO_SUCH);
        Words.due("order(-1, 4, 0)", k.order(-1, 4, 0), NO_SUCH);
        Words.due("order(2, 4, 0)", k.order(2, 4, 0), BAD_VALUE);
        Words.due("order(2, 0, -4)", k.order(2, 0, -4), BAD_VALUE);
        Words.due("order(2, 0, 0)", k.order(2, 0, 0), NOT_POSSIBLE);
        KiteStrings cut = Check.pair(5, 200, 5, 10);
        cut.pass(1);
        Words.due("order of a cut one", cut.order(1, 0, 0), NOT_POSSIBLE);
    }

    private static void step() {
        Words.says("`int step(int kite, int flyer)`: A flyer steps aside. (The wear of the string's places stays.) This is "
            + "a change.");
        KiteStrings k = three();
        k.pass(3);
        k.step(0, 11);
        Words.due("kite(0, 0)", k.kite(0, 0), 11);
        Words.due("kite(1, 0)", k.kite(1, 0), 50);
        Words.due("kite(0, 1)", k.kite(0, 1), 50);
        for (int place = 0; place < 32; place++) {
            Words.due("wear(0, " + place + ")", k.wear(0, place), place == 16 ? 12 : 0);
        }
        Words.due("count(9)", k.count(9), 6);
        k.undo();
        Words.due("undone: kite(0, 0)", k.kite(0, 0), 10);
        range("- `flyer`: 0 to 63", 0, 63, BAD_VALUE, value -> three().step(0, value));
        Words.says("Returns where the flyer stood; NO_SUCH if there is no such kite; BAD_VALUE if flyer is out of range; "
            + "NOT_POSSIBLE if the kite is not in the air.");
        Words.due("step(0, 63)", k.step(0, 63), 10);
        Words.due("step(0, 0)", k.step(0, 0), 63);
        Words.due("step(0, 0)", k.step(0, 0), 0);
        Words.due("step(3, 64)", k.step(3, 64), NO_SUCH);
        Words.due("step(2, 64)", k.step(2, 64), BAD_VALUE);
        Words.due("step(2, 63)", k.step(2, 63), NOT_POSSIBLE);
    }

    private static void land() {
        Words.says("`int land(int kite)`: Lands a kite. This is a change.");
        KiteStrings k = Check.pair(3, 100, 2, 100);
        k.land(0);
        Words.due("kite(0, 8)", k.kite(0, 8), 2);
        Words.due("kite(1, 8)", k.kite(1, 8), 0);
        Words.due("count(1)", k.count(1), 2);
        Words.due("count(7)", k.count(7), 0);
        Words.due("count(9)", k.count(9), 3);
        k.undo();
        Words.due("undone: kite(0, 8)", k.kite(0, 8), 0);
        Words.says("Returns the greatest wear of its string; NO_SUCH if there is no such kite; NOT_POSSIBLE if it is not "
            + "in the air.");
        k.pass(5);
        Words.due("land(0)", k.land(0), 20);
        Words.due("land(1)", k.land(1), 30);
        Words.due("land(1)", k.land(1), NOT_POSSIBLE);
        Words.due("land(2)", k.land(2), NO_SUCH);
        Words.due("land(-1)", k.land(-1), NO_SUCH);
        KiteStrings cut = Check.pair(5, 200, 5, 10);
        cut.pass(1);
        Words.due("land of a cut one", cut.land(1), NOT_POSSIBLE);
        Words.due("land of the other one", cut.land(0), 10);
        Words.due("land without wear", three().land(0), 0);
    }

    private static void pass() {
        Words.says("`int pass(int ticks)`: Lets ticks pass. This is a change.");
        KiteStrings k = three();
        k.order(0, 1, -2);
        k.pass(4);
        Words.due("kite(0, 1)", k.kite(0, 1), 54);
        Words.due("kite(0, 2)", k.kite(0, 2), 32);
        Words.due("count(3)", k.count(3), 4);
        Words.due("count(9)", k.count(9), 6);
        k.undo();
        Words.due("undone: kite(0, 1)", k.kite(0, 1), 50);
        Words.due("undone: count(3)", k.count(3), 0);
        range("- `ticks`: 1 to 200", 1, 200, BAD_VALUE, value -> three().pass(value));
        Words.says("Returns the kites that are cut in them, as a set; BAD_VALUE if ticks is out of range.");
        // Worn by 1 in each tick.
        KiteStrings several = sky(new int[] {0, 60, 20, 0, 10}, new int[] {60, 0, 20, 1, 200});
        Words.due("pass(9)", several.pass(9), 0);
        Words.due("pass(200)", several.pass(200), 1);
        Words.due("pass(200) once more", several.pass(200), 0);
        // Each worn by 10 in each tick, so that they are cut with the ticks 1, 3 and 20.
        KiteStrings all = sky(new int[] {20, 20, 40, 0, 10}, new int[] {30, 30, 40, 0, 30}, new int[] {50, 0, 40, 5, 200},
            new int[] {40, 40, 40, 0, 200});
        Words.due("not all of them", all.pass(19), 1 + 2);
        all.undo();
        Words.due("at different times", all.pass(50), 1 + 2 + 8);
        Words.due("pass(0)", all.pass(0), BAD_VALUE);
        Words.due("pass(201)", all.pass(201), BAD_VALUE);
    }

    private static void round() {
        Words.says("`int round()`: Begins a new round: each kite is in the air again, at the place where it was launched, "
            + "with its first flyer's place and the order (0, 0), without wear; points stay. This is a change.");
        KiteStrings k = Check.pair(5, 200, 5, 25);
        k.launch(60, 61, 20, 1, 50);
        k.order(0, 1, -1);
        k.step(0, 11);
        k.land(2);
        k.pass(4);
        Words.due("one is cut", k.kite(1, 8), 1);
        Words.due("a point", k.kite(0, 7), 1);
        k.round();
        int[][] due = {
            {10, 50, 40, 10, 10, 5, 200, 1, 0, 0, 0, 2}, {50, 10, 40, 10, 10, 5, 25, 0, 0, 0, 0, 1},
            {60, 61, 20, 10, 10, 1, 50, 0, 0, 0, 0, 0}};
        for (int kite = 0; kite < 3; kite++) {
            for (int what = 0; what <= 11; what++) {
                Words.due("kite(" + kite + ", " + what + ")", k.kite(kite, what), due[kite][what]);
            }
            for (int place = 0; place < 32; place++) {
                Words.due("wear(" + kite + ", " + place + ")", k.wear(kite, place), 0);
            }
        }
        k.undo();
        Words.due("undone: kite(1, 8)", k.kite(1, 8), 1);
        Words.due("undone: kite(0, 0)", k.kite(0, 0), 11);
        Words.due("undone: count(4)", k.count(4), 0);
        Words.says("Returns the number of the round then (the first one is 0).");
        Words.due("round()", k.round(), 1);
        Words.due("round()", k.round(), 2);
        Words.due("count(4)", k.count(4), 2);
    }

    private static void carryOut() {
        Words.says("`int carryOut()`: Gives the orders of the pad, one after the other, up to the first one that returns "
            + "an error, and empties the pad.");
        KiteStrings k = three();
        Check.write(k, "0:+1-2;1:00;0:+30;1:-3+1");
        k.carryOut();
        Words.due("the later one stands: dx", k.kite(0, 3), 13);
        Words.due("the later one stands: dy", k.kite(0, 4), 10);
        Words.due("the other one's: dx", k.kite(1, 3), 7);
        Words.due("the other one's: dy", k.kite(1, 4), 11);
        Words.due("the pad", k.count(8), 0);
        Check.write(k, "0:-1-1;2:00;0:+1+1");
        Words.due("one that is landed", k.carryOut(), 1);
        Words.due("the order ahead of it", k.kite(0, 3), 9);
        Words.due("the pad", k.count(8), 0);
        Check.write(k, "0:+2+2;1:+2+2;3:00;0:+1+1");
        Words.due("one that there is not", k.carryOut(), 2);
        Words.due("the orders ahead of it", k.kite(0, 3), 12);
        Words.due("the pad", k.count(8), 0);
        Words.says("Returns how many were given; BAD_TEXT if the pad has a fault (then it stays).");
        Check.write(k, "0:00;1:00;0:00");
        Words.due("three", k.carryOut(), 3);
        Words.due("an empty pad", k.carryOut(), BAD_TEXT);
        Check.write(k, "0:+1+1;9");
        Words.due("a fault", k.carryOut(), BAD_TEXT);
        Words.due("the pad", k.count(8), 8);
        Words.due("nothing is given", k.kite(0, 3), 10);
        Words.due("the fault", k.fault(), 7);
    }

    private static void carryOutIsOneChange() {
        Words.says("This is a change (one, with all of them; also if none is given).");
        KiteStrings k = Check.pair(3, 100, 2, 100);
        Check.write(k, "0:+1-2;1:00;0:+30;1:-3+1");
        Words.due("carryOut()", k.carryOut(), 4);
        Words.due("count(9)", k.count(9), 3);
        Words.due("undo()", k.undo(), 2);
        for (int what = 3; what <= 4; what++) {
            Words.due("undone: kite(0, " + what + ")", k.kite(0, what), 10);
            Words.due("undone: kite(1, " + what + ")", k.kite(1, what), 10);
        }
        Check.write(k, "2:00;0:+1+1");
        Words.due("none", k.carryOut(), 0);
        Words.due("count(9)", k.count(9), 3);
        Words.due("undo()", k.undo(), 2);
        Words.due("the kites stay", k.count(0), 2);
    }

    // ---- promises 9 to 12: what there is

    private static void kite() {
        Words.says("`int kite(int kite, int what)`: Returns something about a kite.");
        range("- `what`: 0 its flyer's place, 1 its x, 2 its y, 3 its dx, and 10, 4 its dy, and 10, 5 its glass, 6 its "
            + "strength, 7 its points, 8 how it is, 9 the greatest wear of its string, 10 the place of that, of several "
            + "the lowest, 11 the kites whose strings cross its own, as a set (9 to 11: 0 if it is not in the air)",
            0, 11, BAD_VALUE, value -> three().kite(0, value));
        KiteStrings k = sky(new int[] {10, 50, 38, 3, 150}, new int[] {50, 10, 40, 2, 160}, new int[] {60, 61, 20, 1, 50},
            new int[] {30, 30, 40, 5, 10});
        k.order(0, -1, 2);
        k.pass(1);
        k.order(0, 3, -3);
        // 0 and 1 cross steeply, with a sliding of 4, at the place 16.2 of both; 0 and 3 at the place 16.4, and not steeply,
        // as (39, 40) and (0, 40) are 1560 and 1600; 1 and 3 steeply at the place 16.
        int[][] due = {
            {10, 49, 40, 13, 7, 3, 150, 1, 0, 2 * 4 * 2 + 5 * 4, 16, 2},
            {50, 10, 40, 10, 10, 2, 160, 1, 0, 2 * 4 * 3 + 2 * 5, 16, 1},
            {60, 61, 20, 10, 10, 1, 50, 0, 0, 0, 0, 0}, {30, 30, 40, 10, 10, 5, 10, 0, 1, 0, 0, 0}};
        for (int kite = 0; kite < 4; kite++) {
            for (int what = 0; what <= 11; what++) {
                Words.due("kite(" + kite + ", " + what + ")", k.kite(kite, what), due[kite][what]);
            }
        }
        k.land(0);
        for (int what = 0; what <= 11; what++) {
            int landed = what == 8 ? 2 : what >= 9 ? 0 : due[0][what];
            Words.due("landed: kite(0, " + what + ")", k.kite(0, what), landed);
        }
        // Both places are worn by 8.
        KiteStrings two = sky(new int[] {20, 20, 40, 0, 200}, new int[] {40, 0, 40, 4, 200}, new int[] {30, 0, 15, 4, 200});
        two.pass(1);
        Words.due("two places: kite(0, 9)", two.kite(0, 9), 8);
        Words.due("two places: kite(0, 10)", two.kite(0, 10), 4);
        Words.due("two places: kite(0, 11)", two.kite(0, 11), 2 + 4);
        Words.says("Returns the number; NO_SUCH if there is no such kite; BAD_VALUE if what is out of range.");
        Words.due("kite(4, 0)", k.kite(4, 0), NO_SUCH);
        Words.due("kite(-1, 12)", k.kite(-1, 12), NO_SUCH);
        Words.due("kite(2, 12)", k.kite(2, 12), BAD_VALUE);
        Words.due("kite(0, -1)", k.kite(0, -1), BAD_VALUE);
    }

    private static void wear() {
        Words.says("`int wear(int kite, int place)`: Returns the wear of a place of a string.");
        KiteStrings k = sky(new int[] {20, 20, 40, 1, 200}, new int[] {40, 0, 40, 4, 200}, new int[] {30, 0, 15, 3, 200});
        k.pass(2);
        for (int place = 0; place < 32; place++) {
            Words.due("wear(0, " + place + ")", k.wear(0, place), place == 16 ? 16 : place == 4 ? 12 : 0);
            Words.due("wear(1, " + place + ")", k.wear(1, place), place == 16 ? 4 : 0);
            Words.due("wear(2, " + place + ")", k.wear(2, place), place == 10 ? 4 : 0);
        }
        Words.says("Returns the wear; NO_SUCH if there is no such kite or place; NOT_POSSIBLE if the kite is not in the "
            + "air.");
        k.land(0);
        Words.due("wear(3, 0)", k.wear(3, 0), NO_SUCH);
        Words.due("wear(-1, 0)", k.wear(-1, 0), NO_SUCH);
        Words.due("wear(1, 32)", k.wear(1, 32), NO_SUCH);
        Words.due("wear(1, -1)", k.wear(1, -1), NO_SUCH);
        Words.due("wear(0, 32)", k.wear(0, 32), NO_SUCH);
        Words.due("wear(0, 31)", k.wear(0, 31), NOT_POSSIBLE);
    }

    private static void crossing() {
        Words.says("`int crossing(int kite, int other, int what)`: Returns something about the crossing of two strings.");
        range("- `what`: 0 whether they cross (1 or 0), 1 its place on the first one, 2 its place on the other one (NONE "
            + "for both if they do not), 3 whether it is steep (NONE likewise), 4 the sliding, 5 by how much the wear of "
            + "the first one becomes more by it in a tick, as they are now (0 if they do not cross)",
            0, 5, BAD_VALUE, value -> three().crossing(0, 1, value));
        // From (30, 0) to (0, 15) the upright string is met at the height 5, after a third of the way.
        KiteStrings k = sky(new int[] {20, 20, 40, 1, 200}, new int[] {30, 0, 15, 4, 200}, new int[] {0, 60, 20, 3, 200},
            new int[] {60, 0, 20, 2, 200});
        k.order(0, 2, 0);
        k.order(1, -1, 3);
        k.order(3, 0, 3);
        int[][] due = {{0, 1, 1, 4, 10, 1, 7, 56}, {1, 0, 1, 10, 4, 1, 7, 14}, {2, 3, 1, 16, 16, 0, 4, 8},
            {3, 2, 1, 16, 16, 0, 4, 12}};
        for (int[] d : due) {
            for (int what = 0; what <= 5; what++) {
                Words.due("crossing(" + d[0] + ", " + d[1] + ", " + what + ")", k.crossing(d[0], d[1], what), d[2 + what]);
            }
        }
        k.step(1, 10);
        int[] apart = {0, NONE, NONE, NONE, 7, 0};
        for (int what = 0; what <= 5; what++) {
            Words.due("apart: crossing(0, 1, " + what + ")", k.crossing(0, 1, what), apart[what]);
            Words.due("apart: crossing(1, 0, " + what + ")", k.crossing(1, 0, what), apart[what]);
        }
        Words.says("Returns the number; NO_SUCH if there is no such kite; BAD_VALUE if both are the same, or what is out "
            + "of range; NOT_POSSIBLE if one of them is not in the air.");
        k.land(1);
        Words.due("crossing(4, 0, 0)", k.crossing(4, 0, 0), NO_SUCH);
        Words.due("crossing(0, 4, 6)", k.crossing(0, 4, 6), NO_SUCH);
        Words.due("crossing(4, 4, 0)", k.crossing(4, 4, 0), NO_SUCH);
        Words.due("crossing(0, 0, 0)", k.crossing(0, 0, 0), BAD_VALUE);
        Words.due("crossing(1, 1, 0)", k.crossing(1, 1, 0), BAD_VALUE);
        Words.due("crossing(0, 1, 6)", k.crossing(0, 1, 6), BAD_VALUE);
        Words.due("crossing(0, 1, 4)", k.crossing(0, 1, 4), NOT_POSSIBLE);
        Words.due("crossing(1, 0, 0)", k.crossing(1, 0, 0), NOT_POSSIBLE);
    }

    private static void count() {
        Words.says("`int count(int what)`: Returns a number.");
        range("- `what`: 0 kites, 1 kites in the air, as a set, 2 crossings, 3 ticks so far, in all rounds, 4 the round, 5 "
            + "the kite with the most points, of several the lowest (NONE without kites), 6 the points of all kites, 7 "
            + "cuts so far, 8 the length of the pad, 9 how many changes can be undone",
            0, 9, BAD_VALUE, value -> three().count(value));
        KiteStrings k = sky(new int[] {60, 61, 20, 1, 50}, new int[] {20, 20, 40, 0, 10}, new int[] {30, 30, 40, 0, 10},
            new int[] {50, 0, 40, 5, 200});
        Check.write(k, "0:00;");
        int[] due = {4, 15, 2, 0, 0, 0, 0, 0, 5, 4};
        k.pass(7);
        int[] cut = {4, 9, 0, 7, 0, 3, 2, 2, 5, 5};
        k.undo();
        for (int what = 0; what <= 9; what++) {
            Words.due("count(" + what + ")", k.count(what), due[what]);
        }
        k.pass(7);
        for (int what = 0; what <= 9; what++) {
            Words.due("later: count(" + what + ")", k.count(what), cut[what]);
        }
        k.round();
        k.land(0);
        k.pass(2);
        int[] again = {4, 8, 0, 9, 1, 3, 4, 4, 5, 6};
        for (int what = 0; what <= 9; what++) {
            Words.due("in the next round: count(" + what + ")", k.count(what), again[what]);
        }
        Words.due("without kites: count(5)", new KiteStrings().count(5), NONE);
        KiteStrings equal = sky(new int[] {60, 61, 20, 1, 50}, new int[] {20, 20, 40, 5, 10}, new int[] {40, 0, 40, 5, 10});
        Words.due("all without points: count(5)", equal.count(5), 0);
        equal.pass(1);
        Words.due("two with a point: count(5)", equal.count(5), 1);
        Words.says("Returns the number; BAD_VALUE if what is out of range.");
        Words.due("count(-1)", k.count(-1), BAD_VALUE);
        Words.due("count(10)", k.count(10), BAD_VALUE);
    }

    // ---- promises 13 to 16: what if

    private static void ifPassed() {
        Words.says("`int ifPassed(int ticks, int what)`: Tells what some ticks would bring, if no other orders are given.");
        KiteStrings k = sky(new int[] {20, 20, 40, 0, 20}, new int[] {40, 22, 20, 5, 200});
        k.order(1, -1, 0);
        String before = Check.look(k);
        // At 21, 20 and 19: with the third tick they cross, and 5 times a sliding of 2, twice, is 20.
        int[][] due = {{1, 0, 0, 0}, {2, 0, 0, 0}, {3, 1, 1, 0}, {4, 1, 1, 0}, {200, 1, 1, 0}};
        for (int[] d : due) {
            for (int what = 0; what <= 2; what++) {
                Words.due("ifPassed(" + d[0] + ", " + what + ")", k.ifPassed(d[0], what), d[1 + what]);
            }
        }
        Words.same("nothing changes", Check.look(k), before);
        KiteStrings strong = sky(new int[] {20, 20, 40, 0, 21}, new int[] {40, 22, 20, 5, 200});
        strong.order(1, -1, 0);
        int[] crossed = {0, 0, 1};
        for (int what = 0; what <= 2; what++) {
            Words.due("a stronger one: ifPassed(2, " + what + ")", strong.ifPassed(2, what), 0);
            Words.due("a stronger one: ifPassed(3, " + what + ")", strong.ifPassed(3, what), crossed[what]);
        }
        range("- `ticks`: 1 to 200", 1, 200, BAD_VALUE, value -> three().ifPassed(value, 0));
        range("- `what`: 0 the kites that would be cut, as a set, 1 the points that would be got, 2 the crossings then",
            0, 2, BAD_VALUE, value -> three().ifPassed(1, value));
        KiteStrings all = sky(new int[] {20, 20, 40, 5, 10}, new int[] {40, 0, 40, 5, 10}, new int[] {0, 40, 40, 5, 200},
            new int[] {30, 0, 15, 0, 200});
        Words.due("crossings now", all.count(2), 5);
        Words.due("ifPassed(1, 0)", all.ifPassed(1, 0), 3);
        Words.due("ifPassed(1, 1)", all.ifPassed(1, 1), 4);
        Words.due("ifPassed(1, 2)", all.ifPassed(1, 2), 1);
        all.pass(1);
        Words.due("what was before does not count: ifPassed(9, 0)", all.ifPassed(9, 0), 0);
        Words.due("what was before does not count: ifPassed(9, 1)", all.ifPassed(9, 1), 0);
        Words.says("Returns the number; BAD_VALUE if an argument is out of range.");
        Words.due("ifPassed(0, 0)", k.ifPassed(0, 0), BAD_VALUE);
        Words.due("ifPassed(201, 0)", k.ifPassed(201, 0), BAD_VALUE);
        Words.due("ifPassed(1, 3)", k.ifPassed(1, 3), BAD_VALUE);
        Words.due("ifPassed(1, -1)", k.ifPassed(1, -1), BAD_VALUE);
    }

    private static void firstCut() {
        Words.says("`int firstCut(int what)`: Tells the first cut, if no other orders are given.");
        range("- `what`: 0 with which tick it comes (1 for the next one), 1 the lowest kite that is cut in it, 2 the kites "
            + "that get points in it, as a set", 0, 2, BAD_VALUE, value -> three().firstCut(value));
        // Two that cross it where it is cut, one of them without glass; then another one, by another one.
        KiteStrings scorers = sky(new int[] {20, 20, 40, 0, 10}, new int[] {40, 0, 40, 5, 200},
            new int[] {0, 40, 40, 0, 200}, new int[] {63, 50, 40, 5, 200}, new int[] {50, 63, 40, 0, 20});
        Words.due("two get points: firstCut(2)", scorers.firstCut(2), 2 + 4);
        Words.due("pass(1)", scorers.pass(1), 1);
        Words.due("another one gets a point: firstCut(2)", scorers.firstCut(2), 8);
        // With tick 3 the kites 1 and 2 are cut by kite 3, and with tick 4 kite 0.
        KiteStrings k = sky(new int[] {10, 10, 40, 0, 40}, new int[] {20, 20, 40, 0, 30}, new int[] {25, 25, 40, 0, 30},
            new int[] {55, 0, 44, 5, 200});
        Words.due("all crossings are steep", k.crossing(0, 3, 3) + k.crossing(1, 3, 3) + k.crossing(2, 3, 3), 3);
        Words.due("firstCut(0)", k.firstCut(0), 3);
        Words.due("firstCut(1)", k.firstCut(1), 1);
        Words.due("firstCut(2)", k.firstCut(2), 8);
        Words.due("pass(2)", k.pass(2), 0);
        Words.due("later: firstCut(0)", k.firstCut(0), 1);
        Words.due("pass(1)", k.pass(1), 2 + 4);
        Words.due("the next one: firstCut(0)", k.firstCut(0), 1);
        Words.due("the next one: firstCut(1)", k.firstCut(1), 0);
        Words.due("the next one: firstCut(2)", k.firstCut(2), 8);
        Words.due("pass(1)", k.pass(1), 1);
        Words.says("Returns the number; BAD_VALUE if what is out of range; NONE if there is none in 300 ticks.");
        for (int what = 0; what <= 2; what++) {
            Words.due("no more: firstCut(" + what + ")", k.firstCut(what), NONE);
        }
        Words.due("firstCut(3)", k.firstCut(3), BAD_VALUE);
        Words.due("firstCut(-1)", k.firstCut(-1), BAD_VALUE);
        // Up to 19 and down again: with which tick it is cut is counted by letting each one pass.
        KiteStrings late = sky(new int[] {20, 20, 40, 0, 200}, new int[] {40, 15, 20, 1, 200});
        late.order(1, 3, 0);
        int tick = 0;
        while (tick < 310 && late.pass(1) == 0) {
            tick++;
        }
        Words.due("it is cut after 300 ticks", tick, 300);
        late = sky(new int[] {20, 20, 40, 0, 200}, new int[] {40, 15, 20, 1, 200});
        late.order(1, 3, 0);
        Words.due("with tick 301: firstCut(0)", late.firstCut(0), NONE);
        late.pass(1);
        Words.due("with tick 300: firstCut(0)", late.firstCut(0), 300);
    }

    private static void meets() {
        Words.says("`int meets(int kite, int other)`: Tells with which tick two strings cross for the first time, if no "
            + "other orders are given.");
        KiteStrings k = sky(new int[] {20, 20, 40, 0, 200}, new int[] {40, 24, 20, 0, 200}, new int[] {60, 61, 20, 0, 200});
        k.order(1, -2, 0);
        Words.due("at 22, 20 and 18: meets(0, 1)", k.meets(0, 1), 3);
        Words.due("meets(1, 0)", k.meets(1, 0), 3);
        k.pass(1);
        Words.due("later: meets(0, 1)", k.meets(0, 1), 2);
        k.order(1, -3, 0);
        Words.due("at 19: meets(0, 1)", k.meets(0, 1), 1);
        Words.says("Returns the tick (0: they do now); NO_SUCH if there is no such kite; BAD_VALUE if both are the same; "
            + "NOT_POSSIBLE if one is not in the air; NONE if they do not within 300 ticks.");
        k.pass(1);
        Words.due("now: meets(0, 1)", k.meets(0, 1), 0);
        Words.due("now: meets(1, 0)", k.meets(1, 0), 0);
        Words.due("meets(0, 3)", k.meets(0, 3), NO_SUCH);
        Words.due("meets(3, 3)", k.meets(3, 3), NO_SUCH);
        Words.due("meets(-1, 0)", k.meets(-1, 0), NO_SUCH);
        Words.due("meets(1, 1)", k.meets(1, 1), BAD_VALUE);
        Words.due("never: meets(0, 2)", k.meets(0, 2), NONE);
        k.land(2);
        Words.due("meets(2, 2)", k.meets(2, 2), BAD_VALUE);
        Words.due("meets(0, 2)", k.meets(0, 2), NOT_POSSIBLE);
        Words.due("meets(2, 0)", k.meets(2, 0), NOT_POSSIBLE);
        KiteStrings late = sky(new int[] {53, 56, 27, 0, 10}, new int[] {17, 23, 6, 0, 10});
        late.order(0, -1, -1);
        Words.due("with tick 301", late.meets(0, 1), NONE);
        late.pass(1);
        Words.due("with tick 300", late.meets(0, 1), 300);
        late.pass(200);
        late.pass(99);
        Words.due("after 299: crossing(0, 1, 0)", late.crossing(0, 1, 0), 0);
        late.pass(1);
        Words.due("after 300: crossing(0, 1, 0)", late.crossing(0, 1, 0), 1);
    }

    private static void best(String what, KiteStrings k, int kite, int ticks, int dx, int dy, int gain) {
        Words.due(what + ": dx", k.bestOrder(kite, ticks, 0), dx + 10);
        Words.due(what + ": dy", k.bestOrder(kite, ticks, 1), dy + 10);
        Words.due(what + ": points", k.bestOrder(kite, ticks, 2), gain + 10);
    }

    private static void bestOrder() {
        Words.says("`int bestOrder(int kite, int ticks, int what)`: Finds the best order for a kite, if the others keep "
            + "theirs: the one with which, in some ticks, it gets the most points, less 2 if it is cut in them; of several "
            + "the one with the least dx, of these with the least dy.");
        // It is at 21, and at 19 or less it cuts the upright string at once.
        KiteStrings left = sky(new int[] {20, 20, 40, 0, 10}, new int[] {40, 21, 20, 5, 200});
        best("to the left", left, 1, 1, -3, -3, 1);
        // It is at 17, the upright string at 20, and the flyer on the left: only 3 to the right touches it, and that is no
        // crossing; from 18 that crosses it.
        KiteStrings right = sky(new int[] {20, 20, 40, 0, 10}, new int[] {0, 17, 20, 5, 200});
        best("up to it", right, 1, 1, -3, -3, 0);
        right = sky(new int[] {20, 20, 40, 0, 10}, new int[] {0, 18, 20, 5, 200});
        best("to the right", right, 1, 1, 3, -3, 1);
        // It is at 25, and comes to 22 at most; the other one comes from 20 to 23, if it keeps its order.
        KiteStrings meeting = sky(new int[] {20, 20, 40, 0, 10}, new int[] {40, 25, 40, 5, 200});
        best("the other one at rest", meeting, 1, 1, -3, -3, 0);
        meeting.order(0, 3, 0);
        best("the other one on its way", meeting, 1, 1, -3, -3, 1);
        // From (18, 20) it is cut where it stands; from 20 on it is not: 2 or 3 to the right.
        KiteStrings flee = sky(new int[] {20, 20, 40, 5, 200}, new int[] {40, 18, 20, 0, 10});
        best("away", flee, 1, 1, 2, -3, 0);
        // Both are weak: a point, and a cut for it, is less than nothing.
        KiteStrings both = sky(new int[] {20, 20, 40, 5, 10}, new int[] {40, 18, 20, 5, 10});
        best("a point is less than a cut", both, 1, 1, 2, -3, 0);
        // It can't come away.
        KiteStrings lost = sky(new int[] {20, 20, 40, 5, 200}, new int[] {40, 5, 20, 0, 10});
        best("a cut and no point", lost, 1, 1, -3, -3, -2);
        // Two points for a cut are as much as none: the least dx is taken.
        KiteStrings two = sky(new int[] {20, 20, 40, 5, 10}, new int[] {21, 21, 40, 5, 10}, new int[] {40, 18, 20, 5, 10});
        best("two points for a cut", two, 2, 1, -3, -3, 0);
        // Three points for a cut are more than none.
        KiteStrings more = sky(new int[] {20, 20, 40, 5, 10}, new int[] {21, 21, 40, 5, 10}, new int[] {22, 22, 40, 5, 10},
            new int[] {40, 18, 20, 5, 10});
        best("three points for a cut", more, 3, 1, -3, -3, 1);
        range("- `ticks`: 1 to 50", 1, 50, BAD_VALUE, value -> three().bestOrder(0, value, 0));
        range("- `what`: 0 the dx, and 10, 1 the dy, and 10, 2 its points then less those of now, less 2 if it is cut, and "
            + "10", 0, 2, BAD_VALUE, value -> three().bestOrder(0, 1, value));
        left.order(1, -3, 0);
        left.pass(1);
        Words.due("a point", left.kite(1, 7), 1);
        best("points of now do not count", left, 1, 50, -3, -3, 0);
        Words.says("Returns the number; NO_SUCH if there is no such kite; BAD_VALUE if another argument is out of range; "
            + "NOT_POSSIBLE if it is not in the air.");
        KiteStrings k = three();
        Words.due("bestOrder(3, 0, 0)", k.bestOrder(3, 0, 0), NO_SUCH);
        Words.due("bestOrder(-1, 1, 0)", k.bestOrder(-1, 1, 0), NO_SUCH);
        Words.due("bestOrder(2, 51, 0)", k.bestOrder(2, 51, 0), BAD_VALUE);
        Words.due("bestOrder(2, 1, 3)", k.bestOrder(2, 1, 3), BAD_VALUE);
        Words.due("bestOrder(2, 1, 0)", k.bestOrder(2, 1, 0), NOT_POSSIBLE);
        Words.due("a cut one: bestOrder(0, 1, 0)", left.bestOrder(0, 1, 0), NOT_POSSIBLE);
    }

    private static void bestOrderOfSeveral() {
        Words.says("of several the one with the least dx, of these with the least dy.");
        // The other string goes along y = x / 2, and is cut by this one if its kite is above that.
        KiteStrings k = sky(new int[] {0, 60, 30, 0, 10}, new int[] {40, 40, 16, 5, 200});
        best("from 40, 16 only 37, 19 is above 18.5", k, 1, 1, -3, 3, 1);
        k = sky(new int[] {0, 60, 30, 0, 10}, new int[] {40, 40, 20, 5, 200});
        best("from 40, 20 also 37, 20 and 37, 19", k, 1, 1, -3, -1, 1);
        k = sky(new int[] {0, 60, 30, 0, 10}, new int[] {40, 2, 1, 5, 200});
        best("from 2, 1 to 2, 2, as a dx of -3 turns there", k, 1, 1, -3, 1, 1);
    }

    // ---- promises 17 to 19: texts

    private static void put() {
        Words.says("`int put(long characters)`: Appends characters to the pad.");
        KiteStrings k = three();
        k.put(Check.number("0:+"));
        k.put(Check.number("2-3;1:00"));
        Words.due("the pad", k.count(8), 11);
        Words.due("the fault", k.fault(), NONE);
        Words.due("no change", k.count(9), 4);
        Words.due("two orders", k.carryOut(), 2);
        Words.due("the first one's dx", k.kite(0, 3), 12);
        Words.due("the first one's dy", k.kite(0, 4), 7);
        Words.says("They are given as a number: its lowest 8 bits are the last character, the next 8 bits the one before, "
            + "and so on; 8 bits that are 0 mean that there are no more characters, and everything above them has to be 0, "
            + "too.");
        Words.due("\"0:-1\"", k.put(('0' << 24) + (':' << 16) + ('-' << 8) + '1'), 4);
        Words.due("\"0\"", k.put('0'), 5);
        Words.due("the fault", k.fault(), NONE);
        Words.due("above 0", k.put((1L << 56) + '0'), BAD_VALUE);
        Words.due("above 0", k.put(((long) '0' << 16) + '0'), BAD_VALUE);
        Words.due("the pad", k.count(8), 5);
        Words.says("- `characters`: 1 to 8 characters");
        Words.due("none", k.put(0), BAD_VALUE);
        Words.due("one", k.put('!'), 6);
        Words.due("eight", k.put(Check.number("!!!!!!~~")), 14);
        Words.says("Returns the length of the pad then; BAD_VALUE if there is no character, a code is not 33 to 126, or a "
            + "bit above 8 bits that are 0 is not 0; TOO_MANY if the pad would be longer than 60.");
        long[] wrong = {
            0, 32, 127, 255, 1, '0' << 8, 32 << 8 | '0', 127 << 8 | '0', '0' << 8 | 32, -1, Long.MIN_VALUE, 1L << 63 | '0'};
        for (long number : wrong) {
            Words.due("put(" + number + ")", k.put(number), BAD_VALUE);
        }
        Words.due("33 and 126", k.put(33 << 8 | 126), 16);
        for (int length = 24; length <= 56; length += 8) {
            Words.due("eight more", k.put(Check.number("00000000")), length);
        }
        Words.due("five more", k.put(Check.number("00000")), TOO_MANY);
        Words.due("a wrong one", k.put(Check.number("0000") << 8), BAD_VALUE);
        Words.due("four more", k.put(Check.number("0000")), 60);
        Words.due("one more", k.put('0'), TOO_MANY);
    }

    private static void wipe() {
        Words.says("`int wipe()`: Empties the pad, and returns the length that it had.");
        KiteStrings k = three();
        Check.write(k, "0:+1+1;1:00");
        Words.due("wipe()", k.wipe(), 11);
        Words.due("the pad", k.count(8), 0);
        Words.due("wipe()", k.wipe(), 0);
        Words.due("no change", k.count(9), 4);
        Check.write(k, "1:+20");
        Words.due("what was there is gone", k.carryOut(), 1);
        Words.due("kite(0, 3)", k.kite(0, 3), 10);
        Words.due("kite(1, 3)", k.kite(1, 3), 12);
    }

    private static void fault() {
        Words.says("`int fault()`: Returns the fault of the pad, NONE if there is none.");
        KiteStrings k = new KiteStrings();
        String text = "3:+1-2;0:00";
        for (int i = 0; i < text.length(); i++) {
            Words.due("of \"" + text.substring(0, i) + "\"", k.fault(), i == 6 ? NONE : i);
            k.put(text.charAt(i));
        }
        Words.due("of all", k.fault(), NONE);
        k.put('0');
        Words.due("of one more", k.fault(), 11);
        k.put('0');
        Words.due("of two more", k.fault(), 11);
        Words.due("the pad stays", k.count(8), 13);
    }

    // ---- promises 20 to 22: undo, saving

    private static void undo() {
        Words.says("`int undo()`: Undoes the latest change: everything except the pad, the slots and the history is as it "
            + "was before it.");
        KiteStrings k = Check.pair(5, 200, 5, 20);
        k.order(0, 1, 0);
        k.save(0);
        String before = Check.battle(k);
        String strings = Check.strings(k);
        k.pass(9);
        Words.due("one is cut", k.count(7), 1);
        Check.write(k, "1:");
        k.save(1);
        Words.due("undo()", k.undo(), 3);
        Words.same("the battle", Check.battle(k), before);
        Words.same("the strings", Check.strings(k), strings);
        Words.due("the pad", k.count(8), 2);
        Words.due("the slot saved last", k.restore(1), 2);
        Words.due("what is in it", k.count(3), 9);
        Words.due("undo()", k.undo(), 3);
        Words.due("the first slot", k.restore(0), 2);
        Words.same("what is in it", Check.battle(k), before);
        Words.says("Returns how many changes can be undone then; NOT_POSSIBLE if there is none.");
        for (int left = 3; left >= 0; left--) {
            Words.due("undo()", k.undo(), left);
            Words.due("count(9)", k.count(9), left);
        }
        Words.due("undo()", k.undo(), NOT_POSSIBLE);
        Words.due("no kite", k.count(0), 0);
    }

    private static void undoKeepsSix() {
        Words.says("A history of at most 6 states is kept: each method that is a change, and returns no error, records the "
            + "state before it (also if nothing is different then); when one more is recorded, the oldest one is dropped.");
        KiteStrings k = Check.pair(0, 10, 0, 10);
        k.order(0, 0, 0);
        k.step(0, 10);
        Words.due("nothing is different: count(9)", k.count(9), 4);
        k.order(0, 9, 9);
        k.step(2, 2);
        k.pass(0);
        k.restore(0);
        k.carryOut();
        Words.due("errors: count(9)", k.count(9), 4);
        k.put('x');
        k.wipe();
        k.fault();
        k.save(0);
        k.kite(0, 0);
        Words.due("no changes: count(9)", k.count(9), 4);
        for (int i = 1; i <= 8; i++) {
            k.step(0, i);
            Words.due("changes: count(9)", k.count(9), Math.min(6, 4 + i));
        }
        for (int i = 1; i <= 6; i++) {
            Words.due("undo()", k.undo(), 6 - i);
            Words.due("undone: kite(0, 0)", k.kite(0, 0), 8 - i);
        }
        Words.due("the older ones are dropped", k.undo(), NOT_POSSIBLE);
        Words.says("An order of a text records nothing by itself.");
        KiteStrings text = Check.pair(0, 10, 0, 10);
        Check.write(text, "0:+1+1;0:+2+2;1:+3+3");
        text.carryOut();
        Words.due("count(9)", text.count(9), 3);
        Words.due("undo()", text.undo(), 2);
        Words.due("kite(0, 3)", text.kite(0, 3), 10);
    }

    private static void save() {
        Words.says("`int save(int slot)`: Saves everything except the pad, the history and the slots in a slot, and "
            + "overwrites what was saved there.");
        KiteStrings k = Check.pair(5, 200, 5, 20);
        k.round();
        k.pass(1);
        Check.write(k, "0:00");
        k.save(1);
        String saved = Check.battle(k);
        String strings = Check.strings(k);
        int held = k.count(9);
        Words.due("no change", held, 4);
        k.pass(1);
        k.wipe();
        k.launch(1, 1, 1, 1, 10);
        k.restore(1);
        Words.same("the battle", Check.battle(k), saved);
        Words.same("the strings", Check.strings(k), strings);
        Words.due("not the pad", k.count(8), 0);
        Words.due("not the history", k.count(9), 6);
        k.land(0);
        k.save(1);
        k.pass(5);
        k.restore(1);
        Words.due("what was saved last", k.kite(0, 8), 2);
        KiteStrings launched = new KiteStrings();
        launched.launch(11, 12, 13, 0, 10);
        launched.step(0, 60);
        launched.order(0, 3, 3);
        launched.pass(1);
        launched.save(0);
        for (int i = 0; i < 4; i++) {
            launched.undo();
        }
        Words.due("all undone", launched.count(0), 0);
        launched.launch(21, 22, 23, 0, 10);
        launched.restore(0);
        launched.round();
        for (int what = 0; what <= 2; what++) {
            Words.due("where it was launched: kite(0, " + what + ")", launched.kite(0, what), 11 + what);
        }
        range("- `slot`: 0 or 1", 0, 1, BAD_VALUE, value -> three().save(value));
        Words.says("Returns how many kites there are; BAD_VALUE if there is no such slot.");
        Words.due("save(0)", k.save(0), 2);
        Words.due("save(0) of none", new KiteStrings().save(0), 0);
        Words.due("save(0) of six", Scenes.full().save(0), 6);
        Words.due("save(2)", k.save(2), BAD_VALUE);
        Words.due("save(-1)", k.save(-1), BAD_VALUE);
    }

    private static void restore() {
        Words.says("`int restore(int slot)`: Restores what was saved last in a slot, which keeps it. This is a change.");
        KiteStrings k = three();
        k.save(0);
        String saved = Check.battle(k);
        k.launch(1, 1, 1, 1, 10);
        k.save(1);
        for (int i = 0; i < 2; i++) {
            k.pass(20);
            String before = Check.battle(k);
            k.restore(0);
            Words.same("restored", Check.battle(k), saved);
            Words.due("count(9)", k.count(9), 6);
            k.undo();
            Words.same("undone", Check.battle(k), before);
            k.restore(0);
            k.order(0, i, 1);
        }
        range("- `slot`: 0 or 1", 0, 1, BAD_VALUE, value -> Scenes.full().restore(value));
        Words.says("Returns how many kites there are then; BAD_VALUE if there is no such slot; NOT_POSSIBLE if nothing was "
            + "saved in it.");
        Words.due("restore(0)", k.restore(0), 3);
        Words.due("restore(1)", k.restore(1), 4);
        Words.due("restore(2)", k.restore(2), BAD_VALUE);
        Words.due("restore(-1)", k.restore(-1), BAD_VALUE);
        KiteStrings one = three();
        one.save(1);
        Words.due("restore(0)", one.restore(0), NOT_POSSIBLE);
        Words.due("restore(1)", one.restore(1), 3);
    }
}
