/**
 * Terms: strings that just cross or just do not, the places of a crossing and its steepness at their edges, the wear of
 * one tick, and who gets points of whom.
 */
final class StringsTest {
    private StringsTest() {
    }

    public static void main(String[] args) {
        allSmallStrings(0, 1);
        allSmallStrings(59, 44);
        fromBorderToBorder();
        eachPlaceOfAString();
        slidingFromOneToThirteen();
        glassFromNoneToFive();
        twiceInAllIfSteep();
        wearIsAddedUpFirst();
        oneShortOfTheStrength();
        whoIsCutStillWearsAndScores();
        whoCrossesElsewhereGetsNoPoint();
        whoCrossesAtAWornPlaceGetsAPoint();
        twoPlacesAtOnceAreOneCut();
        whoIsDownTakesNoPart();
        thePlaceMovesWithTheKites();
        Check.end("StringsTest");
    }

    // ---- crossings

    /** All strings on five by four points and five flyers, each with each: most ways to touch are among them. */
    private static void allSmallStrings(int left, int bottom) {
        int[][] strings = new int[100][];
        for (int i = 0; i < 100; i++) {
            strings[i] = new int[] {left + i % 5, left + i / 5 % 5, bottom + i / 25};
        }
        for (int[] a : strings) {
            for (int[] b : strings) {
                compare(a, b);
            }
        }
    }

    private static void fromBorderToBorder() {
        int[] across = {0, 1, 31, 62, 63};
        int[] heights = {1, 2, 24, 46, 47};
        int[][] strings = new int[125][];
        for (int i = 0; i < 125; i++) {
            strings[i] = new int[] {across[i % 5], across[i / 5 % 5], heights[i / 25]};
        }
        for (int[] a : strings) {
            for (int[] b : strings) {
                compare(a, b);
            }
        }
    }

    private static void compare(int[] a, int[] b) {
        KiteStrings k = new KiteStrings();
        Model model = new Model();
        k.launch(a[0], a[1], a[2], 1, 200);
        k.launch(b[0], b[1], b[2], 2, 200);
        model.launch(a[0], a[1], a[2], 1, 200);
        model.launch(b[0], b[1], b[2], 2, 200);
        for (int what = 0; what <= 5; what++) {
            if (k.crossing(0, 1, what) != model.crossing(0, 1, what)) {
                Check.due("from " + a[0] + " to " + a[1] + ", " + a[2] + " and from " + b[0] + " to " + b[1] + ", " + b[2]
                    + ": crossing(0, 1, " + what + ")", k.crossing(0, 1, what), model.crossing(0, 1, what));
            }
        }
        Check.due("crossings", k.count(2), model.crossing(0, 1, 0));
    }

    /** An upright string of 32, so that a place is a height: each is crossed just at its beginning and just below it. */
    private static void eachPlaceOfAString() {
        for (int place = 1; place <= 31; place++) {
            int flyer = 32 - place;
            KiteStrings k = new KiteStrings();
            k.launch(32, 32, 32, 0, 200);
            // At 45 degrees the other one is as high as the place when it comes to the upright string.
            k.launch(flyer, flyer + 32, 32, 5, 200);
            Check.due("at the height " + place, k.crossing(0, 1, 1), place);
            Check.due("at the height " + place + ", turned", k.crossing(1, 0, 2), place);
            k.pass(1);
            Check.due("worn there", k.wear(0, place), 10);
            k.order(1, 0, -1);
            k.pass(1);
            Check.due("just below it", k.crossing(0, 1, 1), place - 1);
        }
        KiteStrings end = new KiteStrings();
        end.launch(33, 33, 32, 0, 200);
        end.launch(1, 34, 33, 5, 200);
        Check.due("at its end", end.crossing(0, 1, 0), 0);
        Check.due("at its end: the place", end.crossing(0, 1, 1), KiteStrings.NONE);
    }

    // ---- wear

    private static KiteStrings upright(int strength) {
        KiteStrings k = new KiteStrings();
        k.launch(20, 20, 40, 0, strength);
        return k;
    }

    private static void slidingFromOneToThirteen() {
        for (int dx = -3; dx <= 3; dx++) {
            for (int dy = -3; dy <= 3; dy++) {
                KiteStrings k = Check.pair(1, 200, 2, 200);
                k.order(0, dx, dy);
                k.order(1, -dx, 3);
                int due = 1 + 2 * Math.abs(dx) + 3 - dy;
                Check.due("sliding of " + dx + ", " + dy, k.crossing(0, 1, 4), due);
                Check.due("sliding of " + dx + ", " + dy + ", turned", k.crossing(1, 0, 4), due);
                Check.due("wear by " + dx + ", " + dy, k.crossing(0, 1, 5), 2 * 2 * due);
                Check.due("wear by " + dx + ", " + dy + ", turned", k.crossing(1, 0, 5), 2 * due);
            }
        }
        KiteStrings k = Check.pair(5, 200, 5, 200);
        k.order(0, -3, -3);
        k.order(1, 3, 3);
        Check.due("the greatest sliding", k.crossing(0, 1, 4), 13);
        Check.due("the greatest wear of a tick", k.crossing(0, 1, 5), 130);
        k.pass(1);
        Check.due("the greatest wear of a tick", k.kite(0, 9), 130);
        Check.due("is 0 before it", k.undo() >= 0 ? k.kite(0, 9) : -1, 0);
    }

    private static void glassFromNoneToFive() {
        for (int first = 0; first <= 5; first++) {
            for (int second = 0; second <= 5; second++) {
                KiteStrings k = Check.pair(first, 200, second, 200);
                k.pass(3);
                Check.due("wear by the other one's glass", k.wear(0, 16), 6 * second);
                Check.due("wear by the first one's glass", k.wear(1, 16), 6 * first);
            }
        }
    }

    private static void twiceInAllIfSteep() {
        int[][] due = {{30, 10, 20, 1}, {30, 10, 21, 0}, {30, 10, 19, 1}, {30, 9, 20, 1}, {30, 11, 20, 0}};
        for (int[] d : due) {
            KiteStrings k = upright(200);
            k.launch(d[0], d[1], d[2], 3, 200);
            String what = "from " + d[0] + " to " + d[1] + ", " + d[2];
            Check.due(what + ": steep", k.crossing(0, 1, 3), d[3]);
            k.pass(1);
            Check.due(what + ": wear", k.kite(0, 9), d[3] == 1 ? 6 : 3);
        }
    }

    private static void wearIsAddedUpFirst() {
        // Each of both wears the first string by 4 at the same place; together that is 8 a tick.
        KiteStrings k = upright(16);
        k.launch(40, 0, 40, 2, 200);
        k.launch(0, 40, 40, 2, 200);
        Check.due("pass(1)", k.pass(1), 0);
        Check.due("both wear the place", k.wear(0, 16), 8);
        Check.due("pass(1)", k.pass(1), 1);
        Check.due("both get a point", k.kite(1, 7) + k.kite(2, 7), 2);
        Check.due("both get a point", k.kite(1, 7), 1);
    }

    private static void oneShortOfTheStrength() {
        for (int strength = 10; strength <= 200; strength++) {
            KiteStrings k = new KiteStrings();
            k.launch(0, 60, 20, 0, strength);
            k.launch(60, 0, 20, 1, 200);
            Check.due("strength " + strength + ": with which tick", k.firstCut(0), strength);
            Check.due("strength " + strength + ": one short of it", k.pass(strength - 1), 0);
            Check.due("strength " + strength + ": the wear", k.kite(0, 9), strength - 1);
            Check.due("strength " + strength + ": in the air", k.kite(0, 8), KiteStrings.IN_THE_AIR);
            Check.due("strength " + strength + ": at it", k.pass(1), 1);
            Check.due("strength " + strength + ": cut", k.kite(0, 8), KiteStrings.CUT);
        }
    }

    private static void whoIsCutStillWearsAndScores() {
        // 1 cuts 0, and 0 cuts 2 with the same tick.
        KiteStrings k = new KiteStrings();
        k.launch(20, 20, 40, 5, 10);
        k.launch(40, 0, 40, 5, 200);
        k.launch(22, 14, 8, 0, 10);
        Check.due("1 and 2 do not cross", k.crossing(1, 2, 0), 0);
        Check.due("pass(1)", k.pass(1), 5);
        Check.due("who cuts", k.kite(1, 7), 1);
        Check.due("who is cut, and cuts", k.kite(0, 7), 1);
        Check.due("who is cut", k.kite(2, 7), 0);
        Check.due("cuts", k.count(7), 2);
        Check.due("the wear of who is not cut", k.kite(1, 9), 10);
    }

    // ---- points

    private static void whoCrossesElsewhereGetsNoPoint() {
        // 2 crosses 0 at a place that is worn nearly through, and 1 cuts 0 at another one.
        KiteStrings k = upright(20);
        k.launch(40, 0, 40, 0, 200);
        k.launch(30, 0, 15, 5, 200);
        Check.due("the one place", k.crossing(0, 1, 1), 16);
        Check.due("the other place", k.crossing(0, 2, 1), 4);
        Check.due("pass(1)", k.pass(1), 0);
        Check.due("worn by one", k.wear(0, 4), 10);
        Check.due("not worn by one without glass", k.wear(0, 16), 0);
        Check.due("pass(1)", k.pass(1), 1);
        Check.due("who cuts", k.kite(2, 7), 1);
        Check.due("who crosses elsewhere", k.kite(1, 7), 0);
    }

    private static void whoCrossesAtAWornPlaceGetsAPoint() {
        // 2 has no glass, and comes to (21, 21) and so to the worn place only with the tick that cuts.
        KiteStrings k = upright(20);
        k.launch(40, 0, 40, 5, 200);
        k.launch(0, 18, 18, 0, 200);
        k.pass(1);
        Check.due("not there yet", k.crossing(0, 2, 0), 0);
        Check.due("worn by the other one", k.wear(0, 16), 10);
        k.order(2, 3, 3);
        Check.due("firstCut(2)", k.firstCut(2), 6);
        Check.due("the tick that cuts", k.pass(1), 1);
        Check.due("who cuts", k.kite(1, 7), 1);
        Check.due("who comes there without glass", k.kite(2, 7), 1);
    }

    private static void twoPlacesAtOnceAreOneCut() {
        KiteStrings k = upright(10);
        k.launch(40, 0, 40, 5, 200);
        k.launch(30, 0, 15, 5, 200);
        Check.due("pass(1)", k.pass(1), 1);
        Check.due("one cut", k.count(7), 1);
        Check.due("a point at the one place", k.kite(1, 7), 1);
        Check.due("a point at the other place", k.kite(2, 7), 1);
        Check.due("all points", k.count(6), 2);
    }

    private static void whoIsDownTakesNoPart() {
        KiteStrings k = upright(10);
        k.launch(40, 0, 40, 5, 200);
        k.launch(0, 40, 40, 5, 200);
        k.land(1);
        Check.due("pass(1)", k.pass(1), 1);
        Check.due("who is landed gets no point", k.kite(1, 7), 0);
        Check.due("who is in the air does", k.kite(2, 7), 1);
        KiteStrings both = Check.pair(5, 200, 5, 200);
        both.land(0);
        both.pass(9);
        Check.due("a landed kite wears none", both.kite(1, 9), 0);
    }

    private static void thePlaceMovesWithTheKites() {
        KiteStrings k = upright(200);
        k.launch(40, 10, 30, 1, 200);
        k.order(1, 0, 1);
        int[] sums = new int[32];
        for (int tick = 1; tick <= 10; tick++) {
            k.pass(1);
            sums[k.crossing(0, 1, 1)] += k.crossing(0, 1, 5);
        }
        for (int place = 0; place < 32; place++) {
            Check.due("the wear of the place " + place, k.wear(0, place), sums[place]);
        }
        Check.due("several places", k.kite(0, 9) < 20 ? 1 : 0, 1);
    }
}
