/**
 * What is empty and what is full: a sky without kites, with one and with six; a pad without a character and with sixty;
 * a history without a state and with six; slots in which nothing was saved.
 */
final class EmptyAndFullTest {
    private static final int NO_SUCH = KiteStrings.NO_SUCH;
    private static final int BAD_VALUE = KiteStrings.BAD_VALUE;
    private static final int BAD_TEXT = KiteStrings.BAD_TEXT;
    private static final int TOO_MANY = KiteStrings.TOO_MANY;
    private static final int NOT_POSSIBLE = KiteStrings.NOT_POSSIBLE;
    private static final int NONE = KiteStrings.NONE;

    private EmptyAndFullTest() {
    }

    public static void main(String[] args) {
        anEmptySkyHasNoKite();
        anEmptySkyCanChange();
        anEmptySkyAnswers();
        aSkyEmptiedByUndo();
        oneKiteAlone();
        sixKites();
        noneIsInTheAir();
        anEmptyPad();
        aPadAndItsSixty();
        aFullPadIsRead();
        anEmptyHistory();
        aHistoryAndItsSix();
        eachChangeDropsTheOldest();
        aFullHistoryAfterUndo();
        emptySlots();
        slotsAreFilledByThemselves();
        Check.end("EmptyAndFullTest");
    }

    // ---- kites

    private static void anEmptySkyHasNoKite() {
        KiteStrings k = new KiteStrings();
        for (int kite = -1; kite <= 6; kite++) {
            Check.due("empty: order", k.order(kite, 0, 0), NO_SUCH);
            Check.due("empty: step", k.step(kite, 0), NO_SUCH);
            Check.due("empty: land", k.land(kite), NO_SUCH);
            Check.due("empty: kite", k.kite(kite, 0), NO_SUCH);
            Check.due("empty: kite", k.kite(kite, 11), NO_SUCH);
            Check.due("empty: wear", k.wear(kite, 0), NO_SUCH);
            Check.due("empty: crossing", k.crossing(kite, 0, 0), NO_SUCH);
            Check.due("empty: crossing with itself", k.crossing(kite, kite, 0), NO_SUCH);
            Check.due("empty: meets", k.meets(kite, 1), NO_SUCH);
            Check.due("empty: meets itself", k.meets(kite, kite), NO_SUCH);
            Check.due("empty: bestOrder", k.bestOrder(kite, 1, 0), NO_SUCH);
        }
        Check.due("empty: nothing was recorded", k.count(9), 0);
        Check.same("empty: nothing changed", Check.look(k), Check.look(new KiteStrings()));
    }

    private static void anEmptySkyCanChange() {
        KiteStrings k = new KiteStrings();
        Check.due("empty: pass(200)", k.pass(200), 0);
        Check.due("empty: ticks", k.count(3), 200);
        Check.due("empty: round()", k.round(), 1);
        Check.due("empty: the round", k.count(4), 1);
        Check.due("empty: save(1)", k.save(1), 0);
        Check.due("empty: undo()", k.undo(), 1);
        Check.due("empty: the round", k.count(4), 0);
        Check.due("empty: restore(1)", k.restore(1), 0);
        Check.due("empty: the round", k.count(4), 1);
        Check.due("empty: to undo", k.count(9), 2);
        Check.due("empty: the first launch", k.launch(0, 0, 1, 0, 10), 0);
    }

    private static void anEmptySkyAnswers() {
        KiteStrings k = new KiteStrings();
        int[] due = {0, 0, 0, 0, 0, NONE, 0, 0, 0, 0};
        for (int what = 0; what < due.length; what++) {
            Check.due("empty: count(" + what + ")", k.count(what), due[what]);
        }
        for (int what = 0; what <= 2; what++) {
            Check.due("empty: ifPassed(1, " + what + ")", k.ifPassed(1, what), 0);
            Check.due("empty: ifPassed(200, " + what + ")", k.ifPassed(200, what), 0);
            Check.due("empty: firstCut(" + what + ")", k.firstCut(what), NONE);
        }
        Check.due("empty: fault()", k.fault(), 0);
        Check.due("empty: wipe()", k.wipe(), 0);
    }

    private static void aSkyEmptiedByUndo() {
        KiteStrings k = new KiteStrings();
        k.launch(1, 2, 3, 4, 50);
        k.undo();
        Check.same("a launch undone", Check.look(k), Check.look(new KiteStrings()));
        Check.due("a launch undone: kite(0, 0)", k.kite(0, 0), NO_SUCH);
        Check.due("a launch undone: count(5)", k.count(5), NONE);
        Check.due("launch again", k.launch(9, 8, 7, 5, 50), 0);
        int[] due = {9, 8, 7, 10, 10, 5, 50, 0, 0, 0, 0, 0};
        for (int what = 0; what < due.length; what++) {
            Check.due("launched again: kite(0, " + what + ")", k.kite(0, what), due[what]);
        }
    }

    private static void oneKiteAlone() {
        KiteStrings k = Scenes.one();
        Check.due("one: crossing(0, 0, 0)", k.crossing(0, 0, 0), BAD_VALUE);
        Check.due("one: crossing(0, 1, 0)", k.crossing(0, 1, 0), NO_SUCH);
        Check.due("one: crossing(1, 1, 0)", k.crossing(1, 1, 0), NO_SUCH);
        Check.due("one: meets(0, 0)", k.meets(0, 0), BAD_VALUE);
        Check.due("one: meets(0, 1)", k.meets(0, 1), NO_SUCH);
        Check.due("one: meets(1, 0)", k.meets(1, 0), NO_SUCH);
        Check.due("one: kite(0, 11)", k.kite(0, 11), 0);
        Check.due("one: count(2)", k.count(2), 0);
        Check.due("one: count(5)", k.count(5), 0);
        Check.due("one: firstCut(0)", k.firstCut(0), NONE);
        Check.due("one: bestOrder(0, 50, 2)", k.bestOrder(0, 50, 2), 10);
        Check.due("one: bestOrder(1, 50, 2)", k.bestOrder(1, 50, 2), NO_SUCH);
        Check.due("one: pass(200)", k.pass(200), 0);
    }

    private static void sixKites() {
        KiteStrings k = new KiteStrings();
        for (int i = 0; i < 6; i++) {
            Check.due("kites before the launch", k.count(0), i);
            Check.due("the next number: order", k.order(i, 0, 0), NO_SUCH);
            Check.due("launch", k.launch(10 * i, 50 - 10 * i, 40, 1, 200), i);
            Check.due("in the air", k.count(1), (1 << i + 1) - 1);
        }
        Check.due("a seventh", k.launch(0, 0, 1, 0, 10), TOO_MANY);
        Check.due("a seventh that is wrong", k.launch(64, 0, 1, 0, 10), BAD_VALUE);
        Check.due("six: count(0)", k.count(0), 6);
        for (int i = 0; i < 6; i++) {
            Check.due("six: order " + i, k.order(i, 1, 0), 10);
            Check.due("six: step " + i, k.step(i, 10 * i), 10 * i);
            Check.due("six: kite " + i, k.kite(i, 11), 63 - (1 << i));
            Check.due("six: wear " + i, k.wear(i, 31), 0);
            Check.due("six: crossing " + i, k.crossing(i, (i + 1) % 6, 0), 1);
            Check.due("six: meets " + i, k.meets((i + 1) % 6, i), 0);
            Check.due("six: bestOrder " + i, k.bestOrder(i, 1, 2), 10);
        }
        Check.due("six: order of a seventh", k.order(6, 0, 0), NO_SUCH);
        Check.due("six: kite", k.kite(6, 0), NO_SUCH);
        Check.due("six: wear", k.wear(6, 0), NO_SUCH);
        Check.due("six: crossing", k.crossing(0, 6, 0), NO_SUCH);
        Check.due("six: meets", k.meets(6, 0), NO_SUCH);
        Check.due("six: bestOrder", k.bestOrder(6, 1, 0), NO_SUCH);
        Check.due("six: save", k.save(0), 6);
        Check.due("six: land", k.land(5), 0);
        Check.due("landing makes no room", k.launch(0, 0, 1, 0, 10), TOO_MANY);
        Check.due("six: restore", k.restore(0), 6);
        Check.due("six: a new round makes no room", k.round() == 1 ? k.launch(0, 0, 1, 0, 10) : 0, TOO_MANY);
    }

    private static void noneIsInTheAir() {
        KiteStrings k = Check.pair(5, 10, 5, 10);
        Check.due("both are cut", k.pass(1), 3);
        Check.due("none is in the air: count(1)", k.count(1), 0);
        Check.due("none is in the air: count(2)", k.count(2), 0);
        Check.due("none is in the air: count(5)", k.count(5), 0);
        Check.due("none is in the air: pass", k.pass(200), 0);
        Check.due("none is in the air: ticks", k.count(3), 201);
        Check.due("none is in the air: ifPassed", k.ifPassed(200, 0), 0);
        Check.due("none is in the air: firstCut", k.firstCut(0), NONE);
        Check.due("none is in the air: meets", k.meets(0, 1), NOT_POSSIBLE);
        Check.due("none is in the air: bestOrder", k.bestOrder(0, 1, 0), NOT_POSSIBLE);
        Check.write(k, "0:+1+1");
        Check.due("none is in the air: carryOut", k.carryOut(), 0);
        Check.due("none is in the air: its order stays", k.kite(0, 3), 10);
    }

    // ---- the pad

    private static void anEmptyPad() {
        KiteStrings k = Scenes.one();
        Check.due("an empty pad: length", k.count(8), 0);
        Check.due("an empty pad: fault", k.fault(), 0);
        Check.due("an empty pad: carryOut", k.carryOut(), BAD_TEXT);
        Check.due("an empty pad: nothing is recorded", k.count(9), 1);
        Check.due("an empty pad: wipe", k.wipe(), 0);
        Check.due("an empty pad: wipe again", k.wipe(), 0);
        Check.due("wipe is no change", k.count(9), 1);
        Check.write(k, "0:00");
        Check.due("wipe of four", k.wipe(), 4);
        Check.due("wiped: length", k.count(8), 0);
        Check.due("wiped: fault", k.fault(), 0);
        Check.due("wiped: carryOut", k.carryOut(), BAD_TEXT);
        Check.write(k, "0:+10");
        Check.due("nothing of before is left", k.carryOut(), 1);
        Check.due("carried out: length", k.count(8), 0);
        Check.due("carried out: fault", k.fault(), 0);
        Check.due("carried out: wipe", k.wipe(), 0);
    }

    /** Each length of the pad from which 1 to 8 characters lead up to 60, or to 61. */
    private static void aPadAndItsSixty() {
        for (int more = 1; more <= 8; more++) {
            long characters = Check.number("00000000".substring(0, more));
            KiteStrings fits = new KiteStrings();
            Check.write(fits, Scenes.FULL_PAD.substring(0, 60 - more));
            Check.due("before " + more + " more", fits.count(8), 60 - more);
            Check.due(more + " up to 60", fits.put(characters), 60);
            Check.due("length", fits.count(8), 60);
            Check.due("one more than 60", fits.put('0'), TOO_MANY);
            Check.due(more + " more than 60", fits.put(characters), TOO_MANY);
            Check.due("a wrong one more than 60", fits.put(32), BAD_VALUE);
            Check.due("none more than 60", fits.put(0), BAD_VALUE);
            Check.due("length", fits.count(8), 60);
            Check.due("wipe", fits.wipe(), 60);
            Check.due("there is room again", fits.put(characters), more);
            KiteStrings over = new KiteStrings();
            Check.write(over, Scenes.FULL_PAD.substring(0, 61 - more));
            int fault = over.fault();
            Check.due(more + " up to 61", over.put(characters), TOO_MANY);
            Check.due("nothing is appended", over.count(8), 61 - more);
            Check.due("the text is as it was", over.fault(), fault);
            Check.due("a wrong one comes first", over.put(127), BAD_VALUE);
        }
    }

    private static void aFullPadIsRead() {
        KiteStrings k = Check.pair(0, 10, 0, 10);
        Check.write(k, Scenes.FULL_PAD);
        Check.due("60 characters that end too early", k.fault(), 60);
        k.wipe();
        Check.write(k, Scenes.FULL_PAD.substring(0, 57) + "+1");
        Check.due("59 characters with a fault", k.fault(), 57);
        k.wipe();
        Check.write(k, "0:+1+1;0:+1+1;0:+1+1;0:+1+1;0:+1+1;0:+1+1;0:+1+1;0:00;1:-2+3");
        Check.due("60 characters", k.count(8), 60);
        Check.due("60 characters without a fault: length", k.put('0'), TOO_MANY);
        Check.due("60 characters without a fault", k.fault(), NONE);
        Check.due("60 characters, nine orders", k.carryOut(), 9);
        Check.due("the last order is read whole: dx", k.kite(1, 3), 8);
        Check.due("the last order is read whole: dy", k.kite(1, 4), 13);
        Check.write(k, "0:+1+1;0:+1+1;0:+1+1;0:+1+1;0:+1+1;0:+1+1;0:+1+1;0:00;1:-2+4");
        Check.due("a fault at the sixtieth", k.fault(), 59);
        Check.due("a fault at the sixtieth: carryOut", k.carryOut(), BAD_TEXT);
        Check.due("the pad stays", k.wipe(), 60);
    }

    // ---- the history

    private static void anEmptyHistory() {
        KiteStrings k = new KiteStrings();
        Check.due("nothing to undo", k.undo(), NOT_POSSIBLE);
        k.round();
        Check.due("undo of one", k.undo(), 0);
        Check.due("nothing to undo any more", k.undo(), NOT_POSSIBLE);
        Check.due("nothing changed", k.count(4), 0);
        Check.due("nothing to undo any more", k.count(9), 0);
        k.save(0);
        k.put('0');
        k.wipe();
        Check.due("saves and texts can't be undone", k.undo(), NOT_POSSIBLE);
    }

    private static void aHistoryAndItsSix() {
        for (int changes = 1; changes <= 20; changes++) {
            KiteStrings k = new KiteStrings();
            for (int i = 1; i <= changes; i++) {
                Check.due("round", k.round(), i);
                Check.due("to undo", k.count(9), Math.min(6, i));
            }
            int kept = Math.min(6, changes);
            for (int i = 1; i <= kept; i++) {
                Check.due(changes + " changes, undo", k.undo(), kept - i);
                Check.due(changes + " changes, undone", k.count(4), changes - i);
                Check.due(changes + " changes, to undo", k.count(9), kept - i);
            }
            Check.due(changes + " changes, all undone", k.undo(), NOT_POSSIBLE);
            Check.due(changes + " changes, the oldest are dropped", k.count(4), changes - kept);
        }
    }

    private static int change(KiteStrings k, int which) {
        switch (which) {
            case 0: return k.launch(1, 1, 1, 1, 10);
            case 1: return k.order(0, 1, 1);
            case 2: return k.step(0, 5);
            case 3: return k.land(1);
            case 4: return k.pass(1);
            case 5: return k.round();
            case 6:
                Check.write(k, "0:+2+2");
                return k.carryOut();
            default: return k.restore(0);
        }
    }

    /** With six states held, each change is one more, and five of those held before stay. */
    private static void eachChangeDropsTheOldest() {
        for (int which = 0; which <= 7; which++) {
            KiteStrings k = Check.pair(0, 10, 0, 10);
            k.save(0);
            for (int i = 1; i <= 8; i++) {
                k.step(1, i);
            }
            Check.due("six to undo", k.count(9), 6);
            Check.due("change " + which, change(k, which) >= 0 ? 1 : 0, 1);
            Check.due("still six to undo", k.count(9), 6);
            for (int i = 8; i >= 3; i--) {
                Check.due("change " + which + " undone", k.undo(), i - 3);
                Check.due("change " + which + " undone: the flyer", k.kite(1, 0), i);
            }
            Check.due("change " + which + ": no more", k.undo(), NOT_POSSIBLE);
            Check.due("change " + which + ": the oldest one was dropped", k.kite(1, 0), 3);
        }
    }

    private static void aFullHistoryAfterUndo() {
        KiteStrings k = Scenes.one();
        for (int i = 1; i <= 10; i++) {
            k.step(0, i);
        }
        Check.due("undo", k.undo(), 5);
        Check.due("undo", k.undo(), 4);
        k.step(0, 30);
        Check.due("one more fits", k.count(9), 5);
        k.step(0, 31);
        Check.due("one more fits", k.count(9), 6);
        k.step(0, 32);
        Check.due("one more does not", k.count(9), 6);
        int[] due = {31, 30, 8, 7, 6, 5};
        for (int i = 0; i < due.length; i++) {
            Check.due("undo", k.undo(), 5 - i);
            Check.due("undone: the flyer", k.kite(0, 0), due[i]);
        }
        Check.due("undo", k.undo(), NOT_POSSIBLE);
    }

    // ---- slots

    private static void emptySlots() {
        KiteStrings k = Scenes.one();
        for (int slot = 0; slot <= 1; slot++) {
            Check.due("nothing is saved: restore(" + slot + ")", k.restore(slot), NOT_POSSIBLE);
        }
        Check.due("no such slot: restore(-1)", k.restore(-1), BAD_VALUE);
        Check.due("no such slot: restore(2)", k.restore(2), BAD_VALUE);
        Check.due("nothing is recorded", k.count(9), 1);
        Check.due("no such slot: save(2)", k.save(2), BAD_VALUE);
        Check.due("no such slot: save(-1)", k.save(-1), BAD_VALUE);
        Check.due("wrong saves fill no slot", k.restore(0), NOT_POSSIBLE);
        Check.due("wrong saves fill no slot", k.restore(1), NOT_POSSIBLE);
    }

    private static void slotsAreFilledByThemselves() {
        for (int slot = 0; slot <= 1; slot++) {
            KiteStrings k = new KiteStrings();
            Check.due("an empty sky is saved", k.save(slot), 0);
            k.launch(1, 1, 1, 1, 10);
            Check.due("the other slot is empty", k.restore(1 - slot), NOT_POSSIBLE);
            Check.due("an empty sky is restored", k.restore(slot), 0);
            Check.due("no kite is left", k.count(0), 0);
            Check.due("to undo", k.count(9), 2);
            k.undo();
            k.undo();
            Check.due("undo does not empty the slot", k.restore(slot), 0);
            Check.due("undo does not fill the other one", k.restore(1 - slot), NOT_POSSIBLE);
        }
    }
}
