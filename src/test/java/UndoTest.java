/** Promises 20 to 22: undo, save and restore. */
final class UndoTest {
    private static final int LEAST = Integer.MIN_VALUE;
    private static final int MOST = Integer.MAX_VALUE;

    private UndoTest() {
    }

    public static void main(String[] args) {
        undoesEachChange();
        keepsSixStates();
        goesOnAfterUndo();
        leavesThePadAndTheSlots();
        noChangesAreNotRecorded();
        savesAndRestores();
        restoreKeepsTheSlot();
        slotsAreTwo();
        saveOverwrites();
        saveErrors();
        restoreErrors();
        launchesAreSaved();
        savesAnEmptySky();
        Check.end("UndoTest");
    }

    private static KiteStrings battle() {
        KiteStrings k = Check.pair(3, 200, 2, 100);
        k.launch(30, 31, 30, 1, 100);
        k.order(0, 1, -1);
        k.pass(3);
        return k;
    }

    /** Does one of the eight changes, and tells whether that went well. */
    private static boolean change(KiteStrings k, int which) {
        switch (which) {
            case 0: return k.launch(9, 9, 9, 1, 90) >= 0;
            case 1: return k.order(1, 3, 3) >= 0;
            case 2: return k.step(0, 60) >= 0;
            case 3: return k.land(2) >= 0;
            case 4: return k.pass(40) >= 0;
            case 5: return k.round() >= 0;
            case 6:
                Check.write(k, "0:+3+3;1:-3-3");
                return k.carryOut() >= 0;
            default: return k.restore(1) >= 0;
        }
    }

    private static void undoesEachChange() {
        for (int which = 0; which <= 7; which++) {
            KiteStrings k = battle();
            k.save(1);
            k.step(1, 40);
            String before = Check.battle(k);
            int held = k.count(9);
            Check.due("all are in the air", k.count(1), 7);
            Check.due("change " + which, change(k, which) ? 1 : 0, 1);
            Check.due("change " + which + " changes something", Check.battle(k).equals(before) ? 1 : 0, 0);
            Check.due("change " + which + ": count(9)", k.count(9), Math.min(6, held + 1));
            Check.due("change " + which + ": undo()", k.undo(), Math.min(6, held + 1) - 1);
            Check.same("change " + which + " undone", Check.battle(k), before);
        }
    }

    private static void keepsSixStates() {
        KiteStrings k = new KiteStrings();
        k.launch(0, 0, 1, 0, 10);
        String[] states = new String[10];
        for (int i = 0; i < 9; i++) {
            states[i] = Check.battle(k);
            k.step(0, i + 1);
            Check.due("count(9) after " + (i + 2) + " changes", k.count(9), Math.min(6, i + 2));
        }
        for (int i = 8; i >= 3; i--) {
            Check.due("undo()", k.undo(), i - 3);
            Check.same("undone", Check.battle(k), states[i]);
        }
        String before = Check.look(k);
        Check.due("undo() of none", k.undo(), KiteStrings.NOT_POSSIBLE);
        Check.same("after undo() of none", Check.look(k), before);
    }

    private static void goesOnAfterUndo() {
        KiteStrings k = new KiteStrings();
        k.launch(0, 0, 1, 0, 10);
        for (int i = 1; i <= 8; i++) {
            k.step(0, i);
        }
        k.undo();
        k.undo();
        Check.due("kite(0, 0)", k.kite(0, 0), 6);
        k.step(0, 20);
        Check.due("count(9)", k.count(9), 5);
        k.undo();
        Check.due("kite(0, 0)", k.kite(0, 0), 6);
        k.undo();
        Check.due("kite(0, 0)", k.kite(0, 0), 5);
        for (int i = 30; i < 40; i++) {
            k.step(0, i);
        }
        for (int i = 38; i >= 33; i--) {
            k.undo();
            Check.due("kite(0, 0)", k.kite(0, 0), i);
        }
        Check.due("undo()", k.undo(), KiteStrings.NOT_POSSIBLE);
        KiteStrings first = new KiteStrings();
        first.launch(5, 5, 5, 5, 50);
        Check.due("undo of a launch", first.undo(), 0);
        Check.due("no kite is left", first.count(0), 0);
        Check.due("launch again", first.launch(6, 6, 6, 1, 60), 0);
        Check.due("it is the new one", first.kite(0, 6), 60);
    }

    private static void leavesThePadAndTheSlots() {
        KiteStrings k = battle();
        Check.write(k, "0:00");
        k.land(0);
        Check.write(k, ";1:00");
        k.save(0);
        String saved = Check.battle(k);
        k.undo();
        Check.due("the pad stays", k.count(8), 9);
        Check.due("the slot stays", k.restore(0), 3);
        Check.same("as it was saved", Check.battle(k), saved);
        Check.due("the pad stays", k.count(8), 9);
    }

    private static void noChangesAreNotRecorded() {
        KiteStrings k = new KiteStrings();
        k.launch(1, 1, 1, 0, 10);
        int held = k.count(9);
        k.save(0);
        k.put('0');
        k.fault();
        k.wipe();
        k.carryOut();
        k.order(0, 4, 4);
        k.pass(0);
        k.restore(1);
        k.restore(2);
        k.land(3);
        k.step(0, 99);
        k.launch(1, 1, 0, 0, 10);
        k.ifPassed(10, 0);
        k.bestOrder(0, 10, 0);
        Check.due("count(9)", k.count(9), held);
        k.order(0, 0, 0);
        Check.due("an order without a difference is recorded", k.count(9), held + 1);
        k.step(0, 1);
        Check.due("a step without a difference is recorded", k.count(9), held + 2);
    }

    private static void savesAndRestores() {
        KiteStrings k = battle();
        Check.due("save(0)", k.save(0), 3);
        String saved = Check.battle(k);
        int held = k.count(9);
        Check.due("save is no change", held, 5);
        k.launch(3, 3, 3, 3, 33);
        k.pass(100);
        k.round();
        Check.write(k, "0:0");
        Check.due("restore(0)", k.restore(0), 3);
        Check.same("restored", Check.battle(k), saved);
        Check.due("the pad stays", k.count(8), 3);
        Check.due("restore is a change", k.count(9), 6);
        k.undo();
        Check.due("undone: count(0)", k.count(0), 4);
        Check.due("undone: count(4)", k.count(4), 1);
    }

    private static void restoreKeepsTheSlot() {
        KiteStrings k = battle();
        k.save(1);
        String saved = Check.battle(k);
        for (int i = 0; i < 3; i++) {
            k.pass(17);
            k.step(0, i);
            Check.due("restore(1)", k.restore(1), 3);
            Check.same("restored again", Check.battle(k), saved);
        }
    }

    private static void slotsAreTwo() {
        KiteStrings k = new KiteStrings();
        k.launch(1, 1, 1, 0, 10);
        Check.due("save(0)", k.save(0), 1);
        k.launch(2, 2, 2, 0, 10);
        Check.due("save(1)", k.save(1), 2);
        k.launch(3, 3, 3, 0, 10);
        Check.due("restore(0)", k.restore(0), 1);
        Check.due("count(0)", k.count(0), 1);
        Check.due("restore(1)", k.restore(1), 2);
        Check.due("count(0)", k.count(0), 2);
    }

    private static void saveOverwrites() {
        KiteStrings k = new KiteStrings();
        k.save(0);
        k.launch(1, 1, 1, 0, 10);
        k.save(0);
        k.launch(2, 2, 2, 0, 10);
        Check.due("restore(0)", k.restore(0), 1);
    }

    private static void saveErrors() {
        KiteStrings k = battle();
        int[] wrong = {-1, 2, LEAST, MOST};
        for (int slot : wrong) {
            Check.due("save(" + slot + ")", k.save(slot), KiteStrings.BAD_VALUE);
        }
        Check.due("nothing was saved", k.restore(0), KiteStrings.NOT_POSSIBLE);
        Check.due("nothing was saved", k.restore(1), KiteStrings.NOT_POSSIBLE);
    }

    private static void restoreErrors() {
        KiteStrings k = battle();
        k.save(1);
        String before = Check.look(k);
        int[] wrong = {-1, 2, LEAST, MOST};
        for (int slot : wrong) {
            Check.due("restore(" + slot + ")", k.restore(slot), KiteStrings.BAD_VALUE);
        }
        Check.due("restore(0)", k.restore(0), KiteStrings.NOT_POSSIBLE);
        Check.same("after wrong restores", Check.look(k), before);
    }

    /** Where kites were launched is saved, too: the next round tells. */
    private static void launchesAreSaved() {
        KiteStrings k = new KiteStrings();
        k.launch(11, 12, 13, 0, 10);
        k.step(0, 60);
        k.order(0, 3, 3);
        k.pass(2);
        k.save(0);
        for (int i = 0; i < 4; i++) {
            k.undo();
        }
        Check.due("nothing is left", k.count(0), 0);
        k.launch(21, 22, 23, 0, 10);
        k.restore(0);
        k.round();
        for (int what = 0; what < 3; what++) {
            Check.due("restored: kite(0, " + what + ")", k.kite(0, what), 11 + what);
        }
        k.undo();
        k.undo();
        k.round();
        for (int what = 0; what < 3; what++) {
            Check.due("undone: kite(0, " + what + ")", k.kite(0, what), 21 + what);
        }
    }

    private static void savesAnEmptySky() {
        KiteStrings k = new KiteStrings();
        Check.due("save(0)", k.save(0), 0);
        k.launch(1, 1, 1, 0, 10);
        k.pass(5);
        Check.due("restore(0)", k.restore(0), 0);
        Check.due("count(3)", k.count(3), 0);
        Check.due("count(5)", k.count(5), KiteStrings.NONE);
    }
}
