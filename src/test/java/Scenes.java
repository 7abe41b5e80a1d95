/** Battles that several tests begin with. Each call makes a new object that is in the same state as before. */
final class Scenes {
    /** Sixty characters that are nine orders, and the beginning of one more. */
    static final String FULL_PAD = "0:+1-1;1:-2+2;0:0+3;1:+3-3;0:-10;1:0-2;0:+2+2;1:00;0:-1-1;1:";

    private Scenes() {
    }

    static KiteStrings empty() {
        return new KiteStrings();
    }

    static KiteStrings one() {
        KiteStrings k = new KiteStrings();
        k.launch(20, 30, 40, 2, 50);
        return k;
    }

    /**
     * Four kites in round 1: 0 and 1 are in the air and their strings cross, 2 is cut and 3 is landed. Slot 0 is
     * filled and slot 1 is not, four changes can be undone, and the pad has two orders.
     */
    static KiteStrings mixed() {
        KiteStrings k = new KiteStrings();
        k.launch(10, 50, 40, 3, 150);
        k.launch(50, 10, 40, 2, 160);
        k.launch(30, 30, 40, 1, 10);
        k.launch(60, 61, 5, 4, 90);
        k.pass(2);
        k.round();
        k.pass(1);
        k.save(0);
        forgetAll(k);
        k.restore(0);
        k.order(0, 1, 0);
        k.pass(1);
        k.land(3);
        Check.write(k, "0:+1-2;1:0+3");
        return k;
    }

    /** Six kites in the air, all of whose strings cross; both slots, the history and the pad are full. */
    static KiteStrings full() {
        KiteStrings k = new KiteStrings();
        for (int i = 0; i < 6; i++) {
            k.launch(10 * i, 50 - 10 * i, 40, 1, 200);
        }
        k.save(0);
        k.order(2, 1, -1);
        k.order(4, -1, 0);
        k.pass(1);
        k.save(1);
        k.pass(1);
        k.step(5, 49);
        k.order(3, 0, 1);
        Check.write(k, FULL_PAD);
        return k;
    }

    private static void forgetAll(KiteStrings k) {
        for (int i = 0; i < 6; i++) {
            k.undo();
        }
    }
}
