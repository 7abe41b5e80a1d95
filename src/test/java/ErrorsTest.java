/**
 * Terms and all promises: each argument one below its least value, at it, at its greatest one and one above it, in all
 * combinations with the other arguments; of several errors the one that the document names first; a call that returns
 * an error changes nothing, nor does one that only looks; and a change that goes well is one step of undo.
 */
final class ErrorsTest {
    private static final int FAR_BELOW = Integer.MIN_VALUE;
    private static final int FAR_ABOVE = Integer.MAX_VALUE;

    /** In Scenes.mixed there are the kites 0 to 3: 0 and 1 are in the air, 2 is cut, 3 is landed. */
    private static final int[] KITES = {FAR_BELOW, -1, 0, 1, 2, 3, 4, 5, 6, FAR_ABOVE};
    private static final int[] STEPS = {FAR_BELOW, -4, -3, 0, 3, 4, FAR_ABOVE};
    private static final int[] ACROSS = {FAR_BELOW, -1, 0, 63, 64, FAR_ABOVE};
    private static final int[] HEIGHTS = {FAR_BELOW, 0, 1, 47, 48, FAR_ABOVE};
    private static final int[] GLASSES = {FAR_BELOW, -1, 0, 5, 6, FAR_ABOVE};
    private static final int[] STRENGTHS = {FAR_BELOW, 9, 10, 200, 201, FAR_ABOVE};
    private static final int[] TICKS = {FAR_BELOW, -1, 0, 1, 200, 201, FAR_ABOVE};
    private static final int[] PLANNED = {FAR_BELOW, -1, 0, 1, 50, 51, FAR_ABOVE};
    private static final int[] PLACES = {FAR_BELOW, -1, 0, 15, 31, 32, FAR_ABOVE};
    private static final int[] SLOTS = {FAR_BELOW, -1, 0, 1, 2, FAR_ABOVE};

    private static final String MIXED = Check.everything(Scenes::mixed);
    private static final String FULL = Check.everything(Scenes::full);

    /** What no error is, where several are asked for in their order. */
    private static final int FINE = 0;

    private ErrorsTest() {
    }

    interface Call {
        int on(KiteStrings k);
    }

    public static void main(String[] args) {
        launches();
        orders();
        steps();
        landings();
        passes();
        rounds();
        carryOuts();
        looksAtKites();
        looksAtWear();
        looksAtCrossings();
        counts();
        whatIfPassed();
        firstCuts();
        meetings();
        bestOrders();
        saves();
        restores();
        noneIsNoError();
        Check.end("ErrorsTest");
    }

    // ---- what is right and wrong in Scenes.mixed

    private static boolean out(int value, int least, int most) {
        return value < least || value > most;
    }

    private static boolean isNone(int kite) {
        return out(kite, 0, 3);
    }

    private static boolean isDown(int kite) {
        return kite == 2 || kite == 3;
    }

    private static int first(boolean noSuch, boolean badValue, boolean notPossible) {
        if (noSuch) {
            return KiteStrings.NO_SUCH;
        }
        if (badValue) {
            return KiteStrings.BAD_VALUE;
        }
        return notPossible ? KiteStrings.NOT_POSSIBLE : FINE;
    }

    private static String name(String method, int... values) {
        StringBuilder name = new StringBuilder(method).append('(');
        for (int i = 0; i < values.length; i++) {
            name.append(i == 0 ? "" : ", ").append(values[i]);
        }
        return name.append(')').toString();
    }

    /** All of what Scenes.mixed holds after some calls. */
    private static String mixedAfter(Check.Change calls) {
        return Check.everything(() -> after(Scenes.mixed(), calls));
    }

    private static String fullAfter(Check.Change calls) {
        return Check.everything(() -> after(Scenes.full(), calls));
    }

    private static KiteStrings after(KiteStrings k, Check.Change calls) {
        calls.to(k);
        return k;
    }

    private static void refused(String name, Call call, int error) {
        Check.due(name, call.on(Scenes.mixed()), error);
        Check.same("after " + name, mixedAfter(k -> call.on(k)), MIXED);
    }

    /** A change: it returns the error and changes nothing, or it goes well and one undo brings all back. */
    private static void change(String name, Call call, int error) {
        if (error != FINE) {
            refused(name, call, error);
            return;
        }
        KiteStrings k = Scenes.mixed();
        Check.due(name + " goes well", call.on(k) >= 0 ? 1 : 0, 1);
        Check.due("to undo after " + name, k.count(9), 5);
        Check.due("undo() after " + name, k.undo(), 4);
        Check.same("undone: " + name, mixedAfter(m -> {
            call.on(m);
            m.undo();
        }), MIXED);
        KiteStrings full = Scenes.full();
        Check.due("a full sky: " + name + " goes well", call.on(full) >= 0 || name.startsWith("launch") ? 1 : 0, 1);
        Check.due("a full history stays full: " + name, full.count(9), 6);
    }

    /** A look: it returns the error, or something that is none; it never changes anything. */
    private static void look(String name, Call call, int error) {
        if (error != FINE) {
            refused(name, call, error);
            return;
        }
        KiteStrings k = Scenes.mixed();
        int answer = call.on(k);
        Check.due(name + " goes well", answer >= 0 || answer == KiteStrings.NONE ? 1 : 0, 1);
        Check.due(name + " once more", call.on(k), answer);
        Check.same("after " + name, mixedAfter(m -> call.on(m)), MIXED);
    }

    // ---- changes

    private static void launches() {
        int[][] all = {ACROSS, ACROSS, HEIGHTS, GLASSES, STRENGTHS};
        for (int number = 0; number < 6 * 6 * 6 * 6 * 6; number++) {
            int[] a = new int[5];
            int rest = number;
            int far = 0;
            for (int i = 0; i < 5; i++) {
                a[i] = all[i][rest % 6];
                far += rest % 6 == 0 || rest % 6 == 5 ? 1 : 0;
                rest /= 6;
            }
            if (far <= 1) {
                launch(a);
            }
        }
    }

    private static void launch(int[] a) {
        boolean bad = out(a[0], 0, 63) || out(a[1], 0, 63) || out(a[2], 1, 47) || out(a[3], 0, 5) || out(a[4], 10, 200);
        Call call = k -> k.launch(a[0], a[1], a[2], a[3], a[4]);
        change(name("launch", a), call, bad ? KiteStrings.BAD_VALUE : FINE);
        if (!bad) {
            KiteStrings k = Scenes.mixed();
            Check.due(name("launch", a), call.on(k), 4);
            int[] due = {a[0], a[1], a[2], 10, 10, a[3], a[4], 0, KiteStrings.IN_THE_AIR, 0, 0};
            for (int what = 0; what < due.length; what++) {
                Check.due(name("launch", a) + name(" kite", 4, what), k.kite(4, what), due[what]);
            }
        }
        KiteStrings full = Scenes.full();
        Check.due("a seventh: " + name("launch", a), call.on(full), bad ? KiteStrings.BAD_VALUE : KiteStrings.TOO_MANY);
        Check.same("after a seventh: " + name("launch", a), fullAfter(k -> call.on(k)), FULL);
    }

    private static void orders() {
        for (int kite : KITES) {
            for (int dx : STEPS) {
                for (int dy : STEPS) {
                    int error = first(isNone(kite), out(dx, -3, 3) || out(dy, -3, 3), isDown(kite));
                    change(name("order", kite, dx, dy), k -> k.order(kite, dx, dy), error);
                }
            }
        }
        // Kite 0 has the order (1, 0), kite 1 has (0, 0).
        int[][] due = {{0, -3, -3, 43}, {0, 3, 3, 23}, {0, -3, 3, 43}, {0, 1, 0, 0}, {0, 0, 1, 11}, {1, 3, -3, 33}, {1, 0, 0, 0}};
        for (int[] d : due) {
            Check.due(name("order", d[0], d[1], d[2]), Scenes.mixed().order(d[0], d[1], d[2]), d[3]);
        }
    }

    private static void steps() {
        for (int kite : KITES) {
            for (int flyer : ACROSS) {
                change(name("step", kite, flyer), k -> k.step(kite, flyer),
                    first(isNone(kite), out(flyer, 0, 63), isDown(kite)));
            }
        }
        KiteStrings k = Scenes.mixed();
        int[][] due = {{0, 0, 10}, {0, 63, 0}, {0, 63, 63}, {1, 1, 50}};
        for (int[] d : due) {
            Check.due(name("step", d[0], d[1]), k.step(d[0], d[1]), d[2]);
            Check.due("the flyer's place after " + name("step", d[0], d[1]), k.kite(d[0], 0), d[1]);
        }
    }

    private static void landings() {
        for (int kite : KITES) {
            change(name("land", kite), k -> k.land(kite), first(isNone(kite), false, isDown(kite)));
        }
        KiteStrings k = Scenes.mixed();
        int worn = k.kite(0, 9);
        Check.due("there is some wear", worn, 8);
        Check.due("land(0)", k.land(0), worn);
        Check.due("land(0) again", k.land(0), KiteStrings.NOT_POSSIBLE);
        Check.due("undo()", k.undo(), 4);
    }

    private static void passes() {
        for (int ticks : TICKS) {
            change(name("pass", ticks), k -> k.pass(ticks), first(false, out(ticks, 1, 200), false));
        }
        for (int ticks : new int[] {1, 200}) {
            KiteStrings k = Scenes.mixed();
            int before = k.count(3);
            k.pass(ticks);
            Check.due("ticks after " + name("pass", ticks), k.count(3), before + ticks);
        }
    }

    private static void rounds() {
        change("round()", k -> k.round(), FINE);
        Check.due("round()", Scenes.mixed().round(), 2);
    }

    private static void carryOuts() {
        KiteStrings k = Scenes.mixed();
        Check.due("carryOut()", k.carryOut(), 2);
        Check.due("carryOut() of nothing", k.carryOut(), KiteStrings.BAD_TEXT);
        Check.due("carryOut() is one change, and a wrong one is none", k.undo(), 4);
        Check.same("carried out, and undone", mixedAfter(m -> {
            m.carryOut();
            m.carryOut();
            m.undo();
            Check.write(m, "0:+1-2;1:0+3");
        }), MIXED);
        Check.due("carryOut() of what ends too early", Scenes.full().carryOut(), KiteStrings.BAD_TEXT);
        Check.same("after carryOut() of what ends too early", fullAfter(m -> m.carryOut()), FULL);
    }

    // ---- what there is

    private static void looksAtKites() {
        for (int kite : KITES) {
            for (int what = -2; what <= 13; what++) {
                int asked = what == -2 ? FAR_BELOW : what == 13 ? FAR_ABOVE : what;
                look(name("kite", kite, asked), k -> k.kite(kite, asked), first(isNone(kite), out(asked, 0, 11), false));
            }
        }
        int[][] due = {
            {10, 51, 40, 11, 10, 3, 150, 2, KiteStrings.IN_THE_AIR, 8, 15, 2},
            {50, 10, 40, 10, 10, 2, 160, 2, KiteStrings.IN_THE_AIR, 12, 15, 1},
            {30, 30, 40, 10, 10, 1, 10, 0, KiteStrings.CUT, 0, 0, 0},
            {60, 61, 5, 10, 10, 4, 90, 0, KiteStrings.LANDED, 0, 0, 0}};
        for (int kite = 0; kite < 4; kite++) {
            for (int what = 0; what <= 11; what++) {
                Check.due(name("kite", kite, what), Scenes.mixed().kite(kite, what), due[kite][what]);
            }
        }
    }

    private static void looksAtWear() {
        for (int kite : KITES) {
            for (int place : PLACES) {
                look(name("wear", kite, place), k -> k.wear(kite, place),
                    first(isNone(kite) || out(place, 0, 31), false, isDown(kite)));
            }
        }
        int[][] due = {{0, 0, 0}, {0, 14, 0}, {0, 15, 8}, {0, 16, 6}, {0, 17, 0}, {0, 31, 0}, {1, 15, 12}, {1, 16, 8}};
        for (int[] d : due) {
            Check.due(name("wear", d[0], d[1]), Scenes.mixed().wear(d[0], d[1]), d[2]);
        }
    }

    private static void looksAtCrossings() {
        for (int kite : KITES) {
            for (int other : KITES) {
                for (int what = -2; what <= 7; what++) {
                    int asked = what == -2 ? FAR_BELOW : what == 7 ? FAR_ABOVE : what;
                    look(name("crossing", kite, other, asked), k -> k.crossing(kite, other, asked),
                        first(isNone(kite) || isNone(other), kite == other || out(asked, 0, 5),
                            isDown(kite) || isDown(other)));
                }
            }
        }
        int[] due = {1, 15, 15, 1, 2, 8};
        int[] turned = {1, 15, 15, 1, 2, 12};
        for (int what = 0; what <= 5; what++) {
            Check.due(name("crossing", 0, 1, what), Scenes.mixed().crossing(0, 1, what), due[what]);
            Check.due(name("crossing", 1, 0, what), Scenes.mixed().crossing(1, 0, what), turned[what]);
        }
    }

    private static void counts() {
        for (int what = -2; what <= 11; what++) {
            int asked = what == -2 ? FAR_BELOW : what == 11 ? FAR_ABOVE : what;
            look(name("count", asked), k -> k.count(asked), first(false, out(asked, 0, 9), false));
        }
        int[] due = {4, 3, 1, 4, 1, 0, 4, 2, 12, 4};
        for (int what = 0; what <= 9; what++) {
            Check.due(name("count", what), Scenes.mixed().count(what), due[what]);
        }
    }

    // ---- what if

    private static void whatIfPassed() {
        for (int ticks : TICKS) {
            for (int what : new int[] {FAR_BELOW, -1, 0, 1, 2, 3, FAR_ABOVE}) {
                look(name("ifPassed", ticks, what), k -> k.ifPassed(ticks, what),
                    first(false, out(ticks, 1, 200) || out(what, 0, 2), false));
            }
        }
    }

    private static void firstCuts() {
        for (int what : new int[] {FAR_BELOW, -1, 0, 1, 2, 3, FAR_ABOVE}) {
            look(name("firstCut", what), k -> k.firstCut(what), first(false, out(what, 0, 2), false));
        }
    }

    private static void meetings() {
        for (int kite : KITES) {
            for (int other : KITES) {
                look(name("meets", kite, other), k -> k.meets(kite, other),
                    first(isNone(kite) || isNone(other), kite == other, isDown(kite) || isDown(other)));
            }
        }
    }

    private static void bestOrders() {
        for (int kite : KITES) {
            for (int ticks : PLANNED) {
                for (int what : new int[] {FAR_BELOW, -1, 0, 1, 2, 3, FAR_ABOVE}) {
                    look(name("bestOrder", kite, ticks, what), k -> k.bestOrder(kite, ticks, what),
                        first(isNone(kite), out(ticks, 1, 50) || out(what, 0, 2), isDown(kite)));
                }
            }
        }
    }

    // ---- slots

    private static void saves() {
        for (int slot : SLOTS) {
            if (out(slot, 0, 1)) {
                refused(name("save", slot), k -> k.save(slot), KiteStrings.BAD_VALUE);
                continue;
            }
            KiteStrings k = Scenes.mixed();
            String now = Check.battle(k);
            Check.due(name("save", slot), k.save(slot), 4);
            Check.due(name("save", slot) + " is no change", k.count(9), 4);
            Check.same("after " + name("save", slot), Check.look(k), Check.look(Scenes.mixed()));
            k.pass(9);
            Check.due(name("restore", slot), k.restore(slot), 4);
            Check.same("saved and restored", Check.battle(k), now);
        }
    }

    private static void restores() {
        for (int slot : SLOTS) {
            int error = slot == 1 ? KiteStrings.NOT_POSSIBLE : slot == 0 ? FINE : KiteStrings.BAD_VALUE;
            change(name("restore", slot), k -> k.restore(slot), error);
        }
        KiteStrings full = Scenes.full();
        for (int slot : new int[] {-1, 2}) {
            Check.due("both are filled: " + name("restore", slot), full.restore(slot), KiteStrings.BAD_VALUE);
            Check.due("both are filled: " + name("save", slot), full.save(slot), KiteStrings.BAD_VALUE);
        }
        Check.same("after wrong slots", fullAfter(k -> {
            k.restore(-1);
            k.restore(2);
            k.save(-1);
            k.save(2);
        }), FULL);
    }

    /** NONE comes only if no error applies. */
    private static void noneIsNoError() {
        KiteStrings k = new KiteStrings();
        Check.due("an empty sky: count(5)", k.count(5), KiteStrings.NONE);
        Check.due("an empty sky: firstCut(2)", k.firstCut(2), KiteStrings.NONE);
        Check.due("an empty sky: firstCut(3)", k.firstCut(3), KiteStrings.BAD_VALUE);
        Check.due("an empty sky: firstCut(-1)", k.firstCut(-1), KiteStrings.BAD_VALUE);
        k.launch(10, 10, 10, 0, 10);
        k.launch(20, 20, 10, 0, 10);
        Check.due("apart: meets(0, 1)", k.meets(0, 1), KiteStrings.NONE);
        Check.due("apart: meets(0, 2)", k.meets(0, 2), KiteStrings.NO_SUCH);
        Check.due("apart: meets(0, 0)", k.meets(0, 0), KiteStrings.BAD_VALUE);
        for (int what = 1; what <= 3; what++) {
            Check.due("apart: crossing(0, 1, " + what + ")", k.crossing(0, 1, what), KiteStrings.NONE);
            Check.due("apart: crossing(0, 0, " + what + ")", k.crossing(0, 0, what), KiteStrings.BAD_VALUE);
            Check.due("apart: crossing(0, 2, " + what + ")", k.crossing(0, 2, what), KiteStrings.NO_SUCH);
        }
        Check.due("apart: crossing(0, 1, 0)", k.crossing(0, 1, 0), 0);
        Check.due("apart: crossing(0, 1, 4)", k.crossing(0, 1, 4), 1);
        Check.due("apart: crossing(0, 1, 5)", k.crossing(0, 1, 5), 0);
        k.land(1);
        Check.due("one is landed: meets(0, 1)", k.meets(0, 1), KiteStrings.NOT_POSSIBLE);
        Check.due("one is landed: crossing(1, 0, 1)", k.crossing(1, 0, 1), KiteStrings.NOT_POSSIBLE);
        Check.due("one is landed: firstCut(0)", k.firstCut(0), KiteStrings.NONE);
    }
}
