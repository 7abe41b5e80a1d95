/** Promises 8 and 17 to 19: the pad, and the orders on it. */
final class TextTest {
    private TextTest() {
    }

    public static void main(String[] args) {
        putAppends();
        putTakesItsEdges();
        putErrors();
        putStopsAtSixty();
        wipeEmpties();
        faults();
        aFullPadMayEndTooEarly();
        carryOutGivesOrders();
        carryOutIsOneChange();
        carryOutStopsAtAnError();
        carryOutWithoutAGivenOrder();
        carryOutErrors();
        carryOutTakesAFullPad();
        Check.end("TextTest");
    }

    private static void putAppends() {
        KiteStrings k = new KiteStrings();
        Check.due("put \"0\"", k.put('0'), 1);
        Check.due("put \":+1-2;1:\"", k.put(Check.number(":+1-2;1:")), 9);
        Check.due("put \"00\"", k.put(Check.number("00")), 11);
        Check.due("count(8)", k.count(8), 11);
        Check.due("the characters stand in their order", k.fault(), KiteStrings.NONE);
        Check.due("put is no change", k.count(9), 0);
    }

    private static void putTakesItsEdges() {
        KiteStrings k = new KiteStrings();
        Check.due("the least and the greatest code", k.put(33L << 8 | 126), 2);
        Check.due("eight of them", k.put(Check.number("~~~~~~~~")), 10);
        Check.due("eight of the least", k.put(Check.number("!!!!!!!!")), 18);
    }

    private static void putErrors() {
        KiteStrings k = new KiteStrings();
        k.put('0');
        String before = Check.look(k);
        long[] wrong = {
            0, 32, 127, 128, 255, -1, Long.MIN_VALUE, Long.MAX_VALUE, '0' << 8, '0' << 16 | '0', 1L << 62 | '0',
            1L << 16 | '0', '0' << 8 | 32, 127 << 8 | '0', 32L << 56 | Check.number("0000000"),
            200L << 56 | Check.number("0000000"), Check.number("0000") << 32, '0' << 24 | '0' << 8 | '0'};
        for (long characters : wrong) {
            Check.due("put(" + characters + ")", k.put(characters), KiteStrings.BAD_VALUE);
        }
        Check.same("after wrong puts", Check.look(k), before);
    }

    private static void putStopsAtSixty() {
        KiteStrings k = new KiteStrings();
        for (int i = 1; i <= 7; i++) {
            Check.due("put " + i, k.put(Check.number("0:00;0:0")), 8 * i);
        }
        Check.due("five more than 56", k.put(Check.number("00000")), KiteStrings.TOO_MANY);
        Check.due("count(8)", k.count(8), 56);
        Check.due("wrong ones come first", k.put(0), KiteStrings.BAD_VALUE);
        Check.due("four more", k.put(Check.number("0000")), 60);
        Check.due("one more", k.put('0'), KiteStrings.TOO_MANY);
        Check.due("count(8)", k.count(8), 60);
        Check.due("wipe()", k.wipe(), 60);
    }

    private static void wipeEmpties() {
        KiteStrings k = new KiteStrings();
        Check.due("wipe() of nothing", k.wipe(), 0);
        Check.write(k, "0:00;");
        Check.due("wipe()", k.wipe(), 5);
        Check.due("count(8)", k.count(8), 0);
        Check.due("fault()", k.fault(), 0);
        Check.due("wipe is no change", k.count(9), 0);
        Check.write(k, "1:");
        Check.due("nothing of before is left", k.fault(), 2);
    }

    private static void fault(String text, int due) {
        KiteStrings k = new KiteStrings();
        Check.write(k, text);
        Check.due("fault of \"" + text + "\"", k.fault(), due);
        Check.due("length of \"" + text + "\"", k.count(8), text.length());
    }

    private static void faults() {
        String[] fine = {
            "0:00", "5:00", "0:+10", "0:0+1", "3:-3+3", "2:+2-2", "4:+3-1", "0:00;1:00", "0:+1-1;5:0-3;0:00"};
        for (String text : fine) {
            fault(text, KiteStrings.NONE);
        }
        fault("", 0);
        String whole = "3:-1+2;0:0+3;1:00";
        for (int length = 1; length < whole.length(); length++) {
            boolean complete = length == 6 || length == 12;
            fault(whole.substring(0, length), complete ? KiteStrings.NONE : length);
        }
        String[] starts = {"6", "/", ":", ";", "+", "9", "a", "!", "~"};
        for (String start : starts) {
            fault(start, 0);
            fault(start + ":00", 0);
            fault("0:00;" + start + ":00", 5);
        }
        String[] notColons = {"0", ";", "+", "9", "<"};
        for (String sign : notColons) {
            fault("0" + sign, 1);
            fault("1:-1-1;0" + sign + "00", 8);
        }
        String[] notSteps = {"1", "3", ";", ":", ",", "*", ".", "/"};
        for (String sign : notSteps) {
            fault("0:" + sign + "0", 2);
            fault("0:0" + sign, 3);
            fault("0:+1" + sign, 4);
        }
        String[] notDigits = {"0", "4", "+", "-", ";", "/"};
        for (String sign : notDigits) {
            fault("0:+" + sign + "0", 3);
            fault("0:-" + sign, 3);
            fault("0:0+" + sign, 4);
            fault("0:-2-" + sign + ";", 5);
        }
        String[] notSemicolons = {"0", "1", ":", "+", "<", ","};
        for (String sign : notSemicolons) {
            fault("0:00" + sign, 4);
            fault("0:+1-1" + sign + "1:00", 6);
        }
        fault("0:00;;", 5);
    }

    private static void aFullPadMayEndTooEarly() {
        String text = "0:00;0:00;0:00;0:00;0:00;0:00;0:00;0:00;0:00;0:00;0:00;0:00;";
        fault(text, 60);
        fault(text.substring(0, 59), KiteStrings.NONE);
        fault(text.substring(0, 50) + "0:00;0:-1", 59);
        fault(text.substring(0, 50) + "0:00;0:-1+", 60);
    }

    private static void carryOutGivesOrders() {
        KiteStrings k = new KiteStrings();
        k.launch(1, 1, 1, 0, 10);
        k.launch(2, 2, 2, 0, 10);
        k.launch(3, 3, 3, 0, 10);
        Check.write(k, "1:+1-2;0:-30;2:0+3;0:00;1:-2+2");
        Check.due("carryOut()", k.carryOut(), 5);
        int[] due = {10, 10, 8, 12, 10, 13};
        for (int kite = 0; kite < 3; kite++) {
            Check.due("kite(" + kite + ", 3)", k.kite(kite, 3), due[2 * kite]);
            Check.due("kite(" + kite + ", 4)", k.kite(kite, 4), due[2 * kite + 1]);
        }
        Check.due("the pad is empty", k.count(8), 0);
        Check.due("a second time", k.carryOut(), KiteStrings.BAD_TEXT);
    }

    private static void carryOutIsOneChange() {
        KiteStrings k = new KiteStrings();
        k.launch(1, 1, 1, 0, 10);
        k.order(0, 2, 2);
        Check.write(k, "0:+1-2;0:-30;0:0+3");
        Check.due("carryOut()", k.carryOut(), 3);
        Check.due("count(9)", k.count(9), 3);
        Check.due("undo()", k.undo(), 2);
        Check.due("all orders are undone", k.kite(0, 3), 12);
        Check.due("all orders are undone", k.kite(0, 4), 12);
        Check.due("the pad stays empty", k.count(8), 0);
    }

    private static void carryOutStopsAtAnError() {
        KiteStrings k = new KiteStrings();
        k.launch(1, 1, 1, 0, 10);
        k.launch(2, 2, 2, 0, 10);
        k.land(1);
        Check.write(k, "0:+1+1;0:+2+2;1:00;0:+3+3");
        Check.due("one that is landed", k.carryOut(), 2);
        Check.due("the orders before it are given", k.kite(0, 3), 12);
        Check.due("and the pad is empty", k.count(8), 0);
        Check.write(k, "0:-1-1;2:00;0:+3+3");
        Check.due("one that there is not", k.carryOut(), 1);
        Check.due("the order before it is given", k.kite(0, 4), 9);
        Check.due("and the pad is empty", k.count(8), 0);
    }

    private static void carryOutWithoutAGivenOrder() {
        KiteStrings k = new KiteStrings();
        Check.write(k, "0:00");
        Check.due("an empty sky", k.carryOut(), 0);
        Check.due("it is a change", k.count(9), 1);
        Check.due("the pad is empty", k.count(8), 0);
        k.launch(1, 1, 1, 0, 10);
        Check.write(k, "5:00;0:+1+1");
        Check.due("the first one is wrong", k.carryOut(), 0);
        Check.due("the later ones are not given", k.kite(0, 3), 10);
        Check.due("count(9)", k.count(9), 3);
    }

    private static void carryOutErrors() {
        KiteStrings k = new KiteStrings();
        k.launch(1, 1, 1, 0, 10);
        String[] wrong = {"0:00;", "0:+1+1;0:+1+4", "0:", "x", ""};
        for (String text : wrong) {
            k.wipe();
            Check.write(k, text);
            String before = Check.look(k);
            Check.due("carryOut of \"" + text + "\"", k.carryOut(), KiteStrings.BAD_TEXT);
            Check.same("after carryOut of \"" + text + "\"", Check.look(k), before);
        }
    }

    private static void carryOutTakesAFullPad() {
        KiteStrings k = new KiteStrings();
        k.launch(1, 1, 1, 0, 10);
        Check.write(k, "0:00;0:00;0:00;0:00;0:00;0:00;0:00;0:00;0:00;0:00;0:00;0:00");
        Check.due("twelve orders", k.carryOut(), 12);
        Check.write(k, "0:+1+1;0:+2+2;0:+3+3;0:-1-1;0:-2-2;0:-3-3;0:00;0:0+1;0:+2-30");
        Check.due("it does not end so", k.carryOut(), KiteStrings.BAD_TEXT);
        k.wipe();
        Check.write(k, "0:+1+1;0:+2+2;0:+3+3;0:-1-1;0:-2-2;0:-3-3;0:00;0:0+1;0:-20");
        Check.due("nine orders", k.carryOut(), 9);
        Check.due("the last one stands", k.kite(0, 3), 8);
        Check.due("the last one stands", k.kite(0, 4), 10);
    }
}
