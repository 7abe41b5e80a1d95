/** The document from its first line to the texts and constants, sentence by sentence. */
final class TermsTest {
    private static final int NO_SUCH = KiteStrings.NO_SUCH;
    private static final int BAD_VALUE = KiteStrings.BAD_VALUE;
    private static final int BAD_TEXT = KiteStrings.BAD_TEXT;
    private static final int TOO_MANY = KiteStrings.TOO_MANY;
    private static final int NOT_POSSIBLE = KiteStrings.NOT_POSSIBLE;
    private static final int NONE = KiteStrings.NONE;

    private TermsTest() {
    }

    public static void main(String[] args) {
        whatItIs();
        errors();
        errorsChangeNothing();
        noneIsNoError();
        numbersAndSets();
        upToSixKites();
        whatAKiteHas();
        strings();
        crossings();
        places();
        steepness();
        sliding();
        kitesMove();
        stringsWear();
        wearIsAddedUpFirst();
        kitesAreCut();
        whoGetsPoints();
        stringsThatAreGone();
        texts();
        faults();
        constants();
        whatChangesAndWhatDoesNot();
        Words.end("TermsTest", args);
    }

    private static KiteStrings sky(int[]... kites) {
        KiteStrings k = new KiteStrings();
        for (int[] a : kites) {
            k.launch(a[0], a[1], a[2], a[3], a[4]);
        }
        return k;
    }

    private static void whatItIs() {
        Words.says("A judge of kite battles: kites on strings that begin where their flyers stand, orders by which kites "
            + "move, borders of the sky, strings that cross, places on them that wear by glass, by sliding and by the "
            + "angle, strings that are cut through, points for those who cut, kites that are landed, rounds, who is in "
            + "danger, what some ticks would bring, the first cut and who makes it, the best order for a kite, flyers who "
            + "step aside, orders that are read from texts, undo, and saved states.");
        KiteStrings one = Check.pair(5, 200, 5, 10);
        KiteStrings other = new KiteStrings();
        one.save(0);
        one.pass(1);
        Words.due("another object knows nothing of it", other.count(0), 0);
        Words.due("another object has its own ticks", other.count(3), 0);
        Words.due("another object has its own history", other.undo(), NOT_POSSIBLE);
        Words.due("another object has its own slots", other.restore(0), NOT_POSSIBLE);
        other.launch(1, 2, 3, 4, 50);
        other.put('0');
        Words.due("the first one keeps its kites", one.kite(0, 1), 50);
        Words.due("the first one keeps its pad", one.count(8), 0);
        Words.says("An object is used for at most 512 calls after it has been made; what later calls answer is free.");
        KiteStrings old = new KiteStrings();
        old.launch(10, 10, 10, 0, 10);
        old.order(0, 1, 0);
        for (int call = 3; call <= 510; call++) {
            old.pass(1);
        }
        Words.due("call 511, count(3)", old.count(3), 508);
        // With tick 54 it turns at 63, and 64 ticks later at 0, and so on: with tick 502 at 0.
        Words.due("call 512, kite(0, 1)", old.kite(0, 1), 6);
    }

    private static void errors() {
        Words.says("A method that fails returns one of the error codes NO_SUCH (-1), BAD_VALUE (-2), BAD_TEXT (-3), "
            + "TOO_MANY (-4) and NOT_POSSIBLE (-5); it names its errors in the order in which they are checked, and the "
            + "first one that applies is returned.");
        KiteStrings k = Check.pair(1, 100, 1, 100);
        k.land(1);
        Words.due("order(2, 4, 0)", k.order(2, 4, 0), -1);
        Words.due("order(1, 4, 0)", k.order(1, 4, 0), -2);
        Words.due("order(1, 3, 0)", k.order(1, 3, 0), -5);
        Words.due("step(2, 64)", k.step(2, 64), -1);
        Words.due("step(1, 64)", k.step(1, 64), -2);
        Words.due("step(1, 63)", k.step(1, 63), -5);
        Words.due("crossing(2, 2, 6)", k.crossing(2, 2, 6), -1);
        Words.due("crossing(1, 1, 6)", k.crossing(1, 1, 6), -2);
        Words.due("crossing(0, 1, 6)", k.crossing(0, 1, 6), -2);
        Words.due("crossing(0, 1, 5)", k.crossing(0, 1, 5), -5);
        Words.due("bestOrder(2, 51, 3)", k.bestOrder(2, 51, 3), -1);
        Words.due("bestOrder(1, 51, 2)", k.bestOrder(1, 51, 2), -2);
        Words.due("bestOrder(1, 50, 2)", k.bestOrder(1, 50, 2), -5);
        Words.due("carryOut()", k.carryOut(), -3);
        KiteStrings full = Scenes.full();
        Words.due("a seventh launch(0, 0, 0, 0, 10)", full.launch(0, 0, 0, 0, 10), -2);
        Words.due("a seventh launch(0, 0, 1, 0, 10)", full.launch(0, 0, 1, 0, 10), -4);
        Words.due("a full pad: put(32)", full.put(32), -2);
        Words.due("a full pad: put(33)", full.put(33), -4);
        Words.due("restore(2)", k.restore(2), -2);
        Words.due("restore(1)", k.restore(1), -5);
    }

    private static void errorsChangeNothing() {
        Words.says("A call that returns an error changes nothing.");
        String before = Check.everything(Scenes::mixed);
        String after = Check.everything(() -> {
            KiteStrings k = Scenes.mixed();
            k.launch(0, 0, 48, 0, 10);
            k.order(0, 3, -4);
            k.order(2, 3, 3);
            k.step(1, 64);
            k.step(3, 0);
            k.land(2);
            k.land(4);
            k.pass(201);
            k.pass(0);
            k.put(31);
            k.save(-1);
            k.restore(1);
            k.restore(2);
            return k;
        });
        Words.same("thirteen errors", after, before);
        Words.same("a launch too many, a character too many, a text with a fault", Check.everything(() -> {
            KiteStrings k = Scenes.full();
            k.launch(0, 0, 1, 0, 10);
            k.put('0');
            k.carryOut();
            return k;
        }), Check.everything(Scenes::full));
    }

    private static void noneIsNoError() {
        Words.says("NONE (-6) is not an error; it is returned only if no error applies.");
        KiteStrings k = sky(new int[] {10, 10, 10, 1, 10}, new int[] {20, 20, 10, 1, 10});
        Words.due("crossing(0, 1, 1)", k.crossing(0, 1, 1), -6);
        Words.due("crossing(0, 0, 1)", k.crossing(0, 0, 1), BAD_VALUE);
        Words.due("meets(0, 1)", k.meets(0, 1), -6);
        Words.due("meets(1, 1)", k.meets(1, 1), BAD_VALUE);
        Words.due("firstCut(2)", k.firstCut(2), -6);
        Words.due("firstCut(3)", k.firstCut(3), BAD_VALUE);
        Words.due("count(5) of nobody", new KiteStrings().count(5), -6);
        k.land(0);
        Words.due("crossing(0, 1, 2)", k.crossing(0, 1, 2), NOT_POSSIBLE);
        Words.due("meets(1, 0)", k.meets(1, 0), NOT_POSSIBLE);
    }

    private static void numbersAndSets() {
        Words.says("Everything is numbered from 0.");
        KiteStrings k = new KiteStrings();
        Words.due("the first kite", k.launch(1, 1, 1, 1, 10), 0);
        Words.due("the first place", k.wear(0, 0), 0);
        Words.due("the last place", k.wear(0, 31), 0);
        Words.due("the place after the last one", k.wear(0, 32), NO_SUCH);
        Words.due("the first round", k.count(4), 0);
        Words.due("the first slot", k.save(0), 1);
        Words.due("the second slot", k.save(1), 1);
        Words.due("no third slot", k.save(2), BAD_VALUE);
        k.put('x');
        Words.due("the first character", k.fault(), 0);
        Words.says("Sets of kites are bit masks.");
        KiteStrings six = Scenes.full();
        Words.due("all six", six.count(1), 1 + 2 + 4 + 8 + 16 + 32);
        six.land(1);
        six.land(4);
        Words.due("the first, third, fourth and sixth", six.count(1), 1 + 4 + 8 + 32);
        Words.due("who crosses the fourth", six.kite(3, 11), 1 + 4 + 32);
    }

    private static void upToSixKites() {
        Words.says("There are up to 6 kites, numbered in the order in which they were launched.");
        KiteStrings k = new KiteStrings();
        for (int i = 0; i < 6; i++) {
            Words.due("launch", k.launch(60 - i, 30 + i, 40 - i, i % 6, 50 + i), i);
        }
        Words.due("a seventh", k.launch(0, 0, 1, 0, 10), TOO_MANY);
        for (int i = 0; i < 6; i++) {
            Words.due("kite(" + i + ", 0)", k.kite(i, 0), 60 - i);
            Words.due("kite(" + i + ", 1)", k.kite(i, 1), 30 + i);
            Words.due("kite(" + i + ", 6)", k.kite(i, 6), 50 + i);
        }
        Words.due("kite(6, 0)", k.kite(6, 0), NO_SUCH);
    }

    private static void whatAKiteHas() {
        Words.says("A kite has a flyer, who stands at (g, 0), g being 0 to 63; a place (x, y), x being 0 to 63 and y 1 to "
            + "47; an order (dx, dy), each -3 to 3 (at first 0 and 0); glass (0 to 5); a strength (10 to 200); points (0 "
            + "at first); and it is in the air (0), cut (1) or landed (2).");
        KiteStrings k = sky(new int[] {0, 63, 47, 5, 200}, new int[] {63, 0, 1, 0, 10});
        int[][] due = {{0, 63, 47, 10, 10, 5, 200, 0, 0}, {63, 0, 1, 10, 10, 0, 10, 0, 0}};
        for (int kite = 0; kite < 2; kite++) {
            for (int what = 0; what <= 8; what++) {
                Words.due("kite(" + kite + ", " + what + ")", k.kite(kite, what), due[kite][what]);
            }
        }
        Words.due("flyer -1", k.launch(-1, 5, 5, 2, 20), BAD_VALUE);
        Words.due("flyer 64", k.launch(64, 5, 5, 2, 20), BAD_VALUE);
        Words.due("x -1", k.launch(5, -1, 5, 2, 20), BAD_VALUE);
        Words.due("x 64", k.launch(5, 64, 5, 2, 20), BAD_VALUE);
        Words.due("y 0", k.launch(5, 5, 0, 2, 20), BAD_VALUE);
        Words.due("y 48", k.launch(5, 5, 48, 2, 20), BAD_VALUE);
        Words.due("glass -1", k.launch(5, 5, 5, -1, 20), BAD_VALUE);
        Words.due("glass 6", k.launch(5, 5, 5, 6, 20), BAD_VALUE);
        Words.due("strength 9", k.launch(5, 5, 5, 2, 9), BAD_VALUE);
        Words.due("strength 201", k.launch(5, 5, 5, 2, 201), BAD_VALUE);
        for (int step = -4; step <= 4; step++) {
            boolean fits = step >= -3 && step <= 3;
            Words.due("dx " + step, k.order(0, step, 0) >= 0 ? 1 : 0, fits ? 1 : 0);
            Words.due("dy " + step, k.order(0, 0, step) >= 0 ? 1 : 0, fits ? 1 : 0);
        }
        Words.due("land(0)", k.land(0), 0);
        Words.due("a landed one", k.kite(0, 8), 2);
        KiteStrings cut = Check.pair(5, 200, 5, 10);
        cut.pass(1);
        Words.due("a cut one", cut.kite(1, 8), 1);
        Words.due("a point", cut.kite(0, 7), 1);
    }

    private static void strings() {
        Words.says("The string of a kite in the air goes straight from its flyer to its place.");
        // It goes through (10, 12) and (20, 24); a string up to (x, 12) crosses it if x is more than 10.
        for (int x = 8; x <= 12; x++) {
            KiteStrings k = sky(new int[] {0, 30, 36, 0, 10}, new int[] {1, x, 12, 0, 10});
            Words.due("from (1, 0) to (" + x + ", 12)", k.crossing(0, 1, 0), x < 10 ? 1 : 0);
            k = sky(new int[] {0, 30, 36, 0, 10}, new int[] {63, x, 12, 0, 10});
            Words.due("from (63, 0) to (" + x + ", 12)", k.crossing(0, 1, 0), x < 10 ? 1 : 0);
        }
        KiteStrings moved = sky(new int[] {30, 30, 30, 0, 10}, new int[] {50, 31, 20, 0, 10});
        Words.due("short of it", moved.count(2), 0);
        moved.step(0, 45);
        Words.due("the flyer has stepped: the string ends as before, and begins elsewhere", moved.count(2), 1);
        moved.step(0, 30);
        moved.order(0, 3, 0);
        moved.pass(1);
        Words.due("the kite has moved: at the height 20 it is at 32 now", moved.count(2), 1);
        Words.says("It has 32 places, 0 to 31, each with a wear (0 at first).");
        KiteStrings k = sky(new int[] {0, 30, 36, 0, 10});
        for (int place = 0; place < 32; place++) {
            Words.due("wear(0, " + place + ")", k.wear(0, place), 0);
        }
        Words.due("wear(0, 32)", k.wear(0, 32), NO_SUCH);
        Words.due("wear(0, -1)", k.wear(0, -1), NO_SUCH);
    }

    private static KiteStrings pair(int[] first, int[] second) {
        return sky(new int[] {first[0], first[1], first[2], 1, 200}, new int[] {second[0], second[1], second[2], 1, 200});
    }

    private static void crosses(String what, int[] first, int[] second, int due) {
        KiteStrings k = pair(first, second);
        Words.due(what, k.crossing(0, 1, 0), due);
        Words.due(what + ", turned", k.crossing(1, 0, 0), due);
        Words.due(what + ", launched in the other order", pair(second, first).crossing(0, 1, 0), due);
    }

    private static void crossings() {
        Words.says("Two strings of kites in the air cross if they have just one point in common, and this is no end of "
            + "either.");
        int[] slanted = {10, 40, 30};
        crosses("through the middle", slanted, new int[] {40, 10, 30}, 1);
        crosses("no point", slanted, new int[] {11, 41, 30}, 0);
        crosses("no point, though the lines meet above", slanted, new int[] {40, 35, 14}, 0);
        crosses("no point, though the lines meet below", slanted, new int[] {5, 6, 30}, 0);
        crosses("all points of one", slanted, new int[] {10, 30, 20}, 0);
        crosses("all points of both", slanted, new int[] {10, 40, 30}, 0);
        crosses("both begin there", slanted, new int[] {10, 10, 30}, 0);
        crosses("both end there", slanted, new int[] {63, 40, 30}, 0);
        crosses("one ends there", slanted, new int[] {40, 25, 15}, 0);
        crosses("one ends just behind it", slanted, new int[] {40, 24, 15}, 1);
        crosses("one ends just ahead of it", slanted, new int[] {40, 26, 15}, 0);
        crosses("one ends there, from the left", slanted, new int[] {0, 20, 10}, 0);
        crosses("one ends just behind it, from the left", slanted, new int[] {0, 21, 10}, 1);
        KiteStrings k = Check.pair(0, 10, 0, 10);
        Words.due("in the air", k.count(2), 1);
        k.land(0);
        Words.due("not in the air", k.count(2), 0);
    }

    private static void places(int[] first, int[] second, int due, int dueOnOther) {
        KiteStrings k = pair(first, second);
        String what = "from " + second[0] + " to " + second[1] + ", " + second[2] + ": ";
        Words.due(what + "crossing(0, 1, 1)", k.crossing(0, 1, 1), due);
        Words.due(what + "crossing(0, 1, 2)", k.crossing(0, 1, 2), dueOnOther);
        Words.due(what + "crossing(1, 0, 1)", k.crossing(1, 0, 1), dueOnOther);
        Words.due(what + "crossing(1, 0, 2)", k.crossing(1, 0, 2), due);
    }

    private static void places() {
        Words.says("Let a be the flyer's point, and b the kite's place, of one of them.");
        Words.says("The place of the crossing on it is 32 times the part of the way from a to b that lies ahead of the "
            + "crossing, rounded down to a whole number.");
        int[] upright = {20, 20, 30};
        // At the height 5 of 30 that is 5.33, and on the other one half of the way.
        places(upright, new int[] {30, 10, 10}, 5, 16);
        // At the height 20 of 30, and with two thirds of the way.
        places(upright, new int[] {50, 5, 30}, 21, 21);
        // At the height 25 of 30 that is 26.67; 10 of 12 steps to the left.
        places(upright, new int[] {30, 18, 30}, 26, 26);
        // 1 of 32 steps to the right, at the height 1.
        places(upright, new int[] {19, 51, 32}, 1, 1);
        // 1 of 33 steps to the right is 0.97, and at the height 1 of 30 it is 1.07.
        places(upright, new int[] {19, 52, 33}, 1, 0);
        // 20 of 21 steps to the right, 30.48, and at the height 20 of 30 it is 21.33.
        places(upright, new int[] {0, 21, 21}, 21, 30);
    }

    private static void steepness() {
        Words.says("Let u and v be the ways from the flyer to the kite of both (as pairs of numbers).");
        Words.says("The crossing is steep if |u1 * v2 - u2 * v1| is at least |u1 * v1 + u2 * v2|.");
        int[][] due = { // flyer, x, y of both, and whether it is steep
            {20, 20, 30, 25, 15, 10, 1}, // (0, 30), (-10, 10): 300 and 300
            {20, 20, 30, 25, 15, 11, 0}, // (0, 30), (-10, 11): 300 and 330
            {20, 20, 30, 25, 14, 11, 1}, // (0, 30), (-11, 11): 330 and 330
            {20, 20, 30, 15, 25, 11, 0}, // (0, 30), (10, 11): 300 and 330, from the left
            {20, 50, 20, 50, 20, 20, 1}, // (30, 20), (-30, 20): 1200 and -500
            {0, 60, 20, 60, 0, 20, 0}, // (60, 20), (-60, 20): 2400 and -3200
            {0, 40, 40, 10, 10, 40, 1}, // (40, 40), (0, 40): 1600 and 1600
            {0, 39, 40, 10, 10, 40, 0}, // (39, 40), (0, 40): 1560 and 1600
            {10, 50, 40, 50, 10, 40, 1}}; // (40, 40), (-40, 40): 3200 and 0
        for (int[] d : due) {
            KiteStrings k = pair(new int[] {d[0], d[1], d[2]}, new int[] {d[3], d[4], d[5]});
            String what = "from " + d[0] + " to " + d[1] + ", " + d[2] + " and from " + d[3] + " to " + d[4] + ", " + d[5];
            Words.due(what, k.crossing(0, 1, 3), d[6]);
            Words.due(what + ", turned", k.crossing(1, 0, 3), d[6]);
        }
    }

    private static void sliding() {
        Words.says("The sliding of two kites is 1, and by how much their dx differ, and by how much their dy differ.");
        int[][] due = {
            {0, 0, 0, 0, 1}, {3, 0, -3, 0, 7}, {0, -2, 0, 3, 6}, {2, 2, 2, 2, 1}, {-1, 2, 1, -3, 8}, {3, 3, -3, -3, 13}};
        for (int[] d : due) {
            KiteStrings k = Check.pair(1, 200, 1, 200);
            k.order(0, d[0], d[1]);
            k.order(1, d[2], d[3]);
            String what = d[0] + ", " + d[1] + " and " + d[2] + ", " + d[3];
            Words.due(what, k.crossing(0, 1, 4), d[4]);
            Words.due(what + ", turned", k.crossing(1, 0, 4), d[4]);
        }
    }

    // ---- ticks

    private static void kitesMove() {
        Words.says("In a tick this happens:");
        Words.says("1. Each kite in the air moves: its x becomes dx more; if that would be below 0 or above 63, its x "
            + "stays, and its dx becomes the opposite one; then its y becomes dy more; if that would be below 1 or above "
            + "47, its y stays, and its dy becomes the opposite one.");
        int[][] due = { // x, y, dx, dy, and what they are after a tick
            {30, 20, 2, -3, 32, 17, 2, -3}, {1, 20, -1, 0, 0, 20, -1, 0}, {1, 20, -2, 0, 1, 20, 2, 0},
            {62, 20, 1, 0, 63, 20, 1, 0}, {62, 20, 2, 1, 62, 21, -2, 1}, {30, 2, 1, -1, 31, 1, 1, -1},
            {30, 2, 1, -2, 31, 2, 1, 2}, {30, 46, 0, 1, 30, 47, 0, 1}, {30, 46, -3, 2, 27, 46, -3, -2},
            {0, 1, -3, -3, 0, 1, 3, 3}, {63, 47, 3, 3, 63, 47, -3, -3}, {63, 1, 0, 0, 63, 1, 0, 0}};
        for (int[] d : due) {
            KiteStrings k = sky(new int[] {30, d[0], d[1], 0, 10}, new int[] {5, 5, 5, 0, 10});
            k.order(0, d[2], d[3]);
            k.order(1, 1, 1);
            k.land(1);
            k.pass(1);
            String what = d[0] + ", " + d[1] + " by " + d[2] + ", " + d[3];
            Words.due(what + ": x", k.kite(0, 1), d[4]);
            Words.due(what + ": y", k.kite(0, 2), d[5]);
            Words.due(what + ": dx", k.kite(0, 3), d[6] + 10);
            Words.due(what + ": dy", k.kite(0, 4), d[7] + 10);
            Words.due("a landed one does not", k.kite(1, 1), 5);
        }
    }

    private static void stringsWear() {
        Words.says("2. For all pairs of kites in the air whose strings cross then: at the place of the crossing on the "
            + "string of each of both, the wear becomes more by the glass of the other one times their sliding, or by "
            + "twice that in all, if the crossing is steep.");
        KiteStrings then = sky(new int[] {20, 20, 40, 2, 200}, new int[] {40, 21, 20, 3, 200});
        then.order(1, -2, 0);
        Words.due("not yet", then.count(2), 0);
        then.pass(1);
        // From 40 to 19, 20: at x = 20 it is at 19.05; (0, 40) and (-21, 20) are 840 and 800; sliding 3.
        Words.due("the place on the first one", then.wear(0, 15), 2 * 3 * 3);
        Words.due("the place on the other one", then.wear(1, 30), 2 * 2 * 3);
        then.order(1, 3, 0);
        then.pass(1);
        Words.due("not any more", then.kite(0, 9), 18);
        KiteStrings flat = sky(new int[] {0, 60, 20, 4, 200}, new int[] {60, 0, 20, 3, 200});
        flat.order(0, 0, 2);
        flat.order(1, 0, 2);
        flat.pass(1);
        Words.due("not steep: the first one", flat.wear(0, 16), 3);
        Words.due("not steep: the other one", flat.wear(1, 16), 4);
        flat.pass(1);
        Words.due("and more", flat.wear(0, 16), 6);
        KiteStrings three = sky(new int[] {20, 20, 40, 1, 200}, new int[] {40, 0, 40, 2, 200},
            new int[] {0, 40, 40, 3, 200});
        three.pass(1);
        Words.due("all pairs: the first one", three.wear(0, 16), 2 * 2 + 2 * 3);
        Words.due("all pairs: the second one", three.wear(1, 16), 2 * 1 + 2 * 3);
        Words.due("all pairs: the third one", three.wear(2, 16), 2 * 1 + 2 * 2);
    }

    private static void wearIsAddedUpFirst() {
        Words.says("(All wear is added up before the next step.)");
        // Each alone brings 6, and both together 12.
        KiteStrings k = sky(new int[] {20, 20, 40, 0, 12}, new int[] {40, 0, 40, 3, 200}, new int[] {0, 40, 40, 3, 200});
        Words.due("pass(1)", k.pass(1), 1);
        Words.due("the first one who wore it", k.kite(1, 7), 1);
        Words.due("the last one who wore it", k.kite(2, 7), 1);
        // The first one is cut by the second one, and still wears the third one's string.
        KiteStrings all = sky(new int[] {20, 20, 40, 5, 10}, new int[] {40, 0, 40, 5, 200}, new int[] {0, 40, 40, 0, 200});
        Words.due("pass(1)", all.pass(1), 1);
        Words.due("who was not cut is worn by both", all.wear(2, 16), 20);
    }

    private static void kitesAreCut() {
        Words.says("3. Each kite in the air that has a place on its string whose wear is its strength or more is cut.");
        for (int strength = 11; strength <= 13; strength++) {
            KiteStrings k = Check.pair(0, strength, 2, 200);
            Words.due("wear 8, strength " + strength, k.pass(2), 0);
            Words.due("wear 12, strength " + strength, k.pass(1), strength <= 12 ? 1 : 0);
            Words.due("strength " + strength + ": how it is", k.kite(0, 8), strength <= 12 ? 1 : 0);
        }
        // At two places 8 each: no place has 10.
        KiteStrings two = sky(new int[] {20, 20, 40, 0, 10}, new int[] {40, 0, 40, 4, 200},
            new int[] {30, 0, 15, 4, 200});
        Words.due("two places of less", two.pass(1), 0);
        Words.due("the one place", two.wear(0, 16), 8);
        Words.due("the other place", two.wear(0, 4), 8);
    }

    private static void whoGetsPoints() {
        Words.says("Each kite whose string crossed that of a kite that is cut, in this tick, at a place of the latter "
            + "whose wear is its strength or more, gets a point (one for each kite that is cut so; also if it is cut "
            + "itself).");
        // The first one is cut at the place 16; the third one crosses it there without glass, the fourth one elsewhere.
        KiteStrings k = sky(new int[] {20, 20, 40, 0, 10}, new int[] {40, 0, 40, 5, 200}, new int[] {0, 40, 40, 0, 200},
            new int[] {30, 0, 15, 0, 200});
        Words.due("pass(1)", k.pass(1), 1);
        int[] due = {0, 1, 1, 0};
        for (int kite = 0; kite < 4; kite++) {
            Words.due("points of " + kite, k.kite(kite, 7), due[kite]);
        }
        // Who crossed it there in an earlier tick alone gets none.
        KiteStrings earlier = sky(new int[] {20, 20, 40, 0, 40}, new int[] {40, 0, 40, 5, 200},
            new int[] {0, 40, 40, 5, 200});
        Words.due("both wear it", earlier.pass(1), 0);
        earlier.land(2);
        Words.due("one of them goes on", earlier.pass(2), 1);
        Words.due("who was there", earlier.kite(1, 7), 1);
        Words.due("who was not any more", earlier.kite(2, 7), 0);
        // Two are cut by one.
        KiteStrings many = sky(new int[] {20, 20, 40, 0, 10}, new int[] {30, 30, 40, 0, 10}, new int[] {50, 0, 40, 5, 200});
        Words.due("two at once", many.pass(1), 3);
        Words.due("a point for each", many.kite(2, 7), 2);
        // All three cut one another.
        KiteStrings all = sky(new int[] {20, 20, 40, 5, 10}, new int[] {40, 0, 40, 5, 10}, new int[] {0, 40, 40, 5, 10});
        Words.due("all at once", all.pass(1), 7);
        Words.due("each one's points", all.kite(0, 7) * 100 + all.kite(1, 7) * 10 + all.kite(2, 7), 222);
    }

    private static void stringsThatAreGone() {
        Words.says("A kite that is cut or landed has no string any more.");
        KiteStrings cut = Check.pair(5, 200, 5, 10);
        cut.pass(1);
        KiteStrings landed = Check.pair(5, 200, 5, 200);
        landed.pass(1);
        landed.land(1);
        for (KiteStrings k : new KiteStrings[] {cut, landed}) {
            Words.due("crossings", k.count(2), 0);
            Words.due("who crosses the other one", k.kite(0, 11), 0);
            Words.due("its wear", k.wear(1, 16), NOT_POSSIBLE);
            Words.due("its greatest wear", k.kite(1, 9), 0);
            Words.due("its place", k.kite(1, 10), 0);
            Words.due("whom it crosses", k.kite(1, 11), 0);
            k.pass(3);
            Words.due("it wears nothing any more", k.wear(0, 16), 10);
        }
    }

    // ---- texts, constants

    private static int faultOf(String text) {
        KiteStrings k = new KiteStrings();
        Check.write(k, text);
        return k.fault();
    }

    private static void texts() {
        Words.says("The pad is a text of at most 60 characters, orders for kites: text = order { \";\" order }; order = "
            + "kite \":\" step step; a kite is a digit from 0 to 5, a step is \"0\", or \"+\" or \"-\" and a digit from 1 "
            + "to 3: the dx, and the dy.");
        String[] right = {"0:00", "5:00", "1:+10", "1:0+1", "2:-1-3", "3:+2+3", "0:00;0:00", "4:-20;0:0-1;5:+3-3"};
        for (String text : right) {
            Words.due(text, faultOf(text), NONE);
        }
        String[] wrong = {
            "6:00", "-1:00", "00:00", "0:0", "0:000", "0;00", "0:+00", "0:0-0", "0:+4+1", "0:1+1", "0:00,0:00", "0:00;"};
        for (String text : wrong) {
            Words.due(text, faultOf(text) == NONE ? 1 : 0, 0);
        }
        KiteStrings k = sky(new int[] {30, 30, 30, 0, 10});
        Check.write(k, "0:-2+3");
        k.carryOut();
        Words.due("the dx", k.kite(0, 3), 8);
        Words.due("the dy", k.kite(0, 4), 13);
        KiteStrings full = new KiteStrings();
        Check.write(full, "0:+1+1;0:+1+1;0:+1+1;0:+1+1;0:+1+1;0:+1+1;0:+1+1;0:+1+1;0:00");
        Words.due("60 characters", full.count(8), 60);
        Words.due("one more", full.put('0'), TOO_MANY);
    }

    private static void faults() {
        Words.says("The fault is the index of the first character that cannot stand at its place when the text is read "
            + "from left to right; if there is none and the text ends too early (also if it is empty), it is the length "
            + "of the text.");
        Words.due("the first of two", faultOf("0:00;7:00;8:00"), 5);
        Words.due("a kite", faultOf("6:00"), 0);
        Words.due("a colon", faultOf("0;00"), 1);
        Words.due("a step", faultOf("0:*0"), 2);
        Words.due("a digit", faultOf("0:+0+1"), 3);
        Words.due("a second step", faultOf("0:+1;"), 4);
        Words.due("a second digit", faultOf("0:+1-4"), 5);
        Words.due("a second digit", faultOf("0:0+0"), 4);
        Words.due("a semicolon", faultOf("0:+1-1+"), 6);
        Words.due("an order", faultOf("0:+1-1;;"), 7);
        Words.due("empty", faultOf(""), 0);
        String text = "0:+1-1;1:00";
        for (int length = 1; length < text.length(); length++) {
            Words.due(text.substring(0, length), faultOf(text.substring(0, length)), length == 6 ? NONE : length);
        }
    }

    private static void constants() {
        Words.says("The constants: `NO_SUCH = -1, BAD_VALUE = -2, BAD_TEXT = -3, TOO_MANY = -4, NOT_POSSIBLE = -5, NONE = "
            + "-6`: Error codes, and NONE: there is none.");
        int[] codes = {NO_SUCH, BAD_VALUE, BAD_TEXT, TOO_MANY, NOT_POSSIBLE, NONE};
        for (int i = 0; i < codes.length; i++) {
            Words.due("code " + i, codes[i], -1 - i);
        }
        Words.says("`IN_THE_AIR = 0, CUT = 1, LANDED = 2`: How a kite is.");
        Words.due("IN_THE_AIR", KiteStrings.IN_THE_AIR, 0);
        Words.due("CUT", KiteStrings.CUT, 1);
        Words.due("LANDED", KiteStrings.LANDED, 2);
    }

    private static void whatChangesAndWhatDoesNot() {
        Words.says("Ahead of the calls `launch`, `order`, `step`, `land`, `pass`, `round`, `carryOut` the interface says: "
            + "---- changes.");
        KiteStrings k = new KiteStrings();
        k.launch(30, 30, 30, 0, 10);
        k.order(0, 1, 1);
        k.step(0, 31);
        k.pass(1);
        k.land(0);
        Words.due("changes so far", k.count(9), 5);
        k.round();
        Words.due("changes so far", k.count(9), 6);
        KiteStrings text = new KiteStrings();
        Check.write(text, "0:00");
        text.carryOut();
        Words.due("carryOut", text.count(9), 1);
        String before = Check.everything(Scenes::mixed);
        Words.says("Ahead of the calls `kite`, `wear`, `crossing`, `count` the interface says: ---- what there is; nothing "
            + "changes.");
        Words.same("looks", Check.everything(() -> {
            KiteStrings m = Scenes.mixed();
            m.kite(0, 11);
            m.kite(1, 10);
            m.wear(0, 15);
            m.crossing(0, 1, 5);
            m.count(2);
            m.count(5);
            return m;
        }), before);
        Words.says("Ahead of the calls `ifPassed`, `firstCut`, `meets`, `bestOrder` the interface says: ---- what if; "
            + "nothing changes.");
        Words.same("what-ifs", Check.everything(() -> {
            KiteStrings m = Scenes.mixed();
            m.ifPassed(200, 0);
            m.firstCut(0);
            m.meets(0, 1);
            m.bestOrder(1, 50, 2);
            return m;
        }), before);
        Words.says("Ahead of the calls `put`, `wipe`, `fault` the interface says: ---- texts.");
        Words.same("texts, put back", Check.everything(() -> {
            KiteStrings m = Scenes.mixed();
            m.put('x');
            m.wipe();
            Check.write(m, "0:+1-2;1:0+3");
            m.fault();
            return m;
        }), before);
        Words.says("Ahead of the calls `undo`, `save`, `restore` the interface says: ---- undo, saving.");
        KiteStrings saved = Scenes.one();
        Words.due("save(0)", saved.save(0), 1);
        Words.due("save is no change", saved.count(9), 1);
        Words.due("restore(0)", saved.restore(0), 1);
        Words.due("restore is a change", saved.count(9), 2);
        Words.due("undo()", saved.undo(), 1);
    }
}
