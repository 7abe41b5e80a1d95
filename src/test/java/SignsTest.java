/**
 * The pad, sign by sign: each code at each of the eight places of a number, numbers with none and with eight characters
 * and with bits above eight bits that are 0; and each character at each place of a text.
 */
final class SignsTest {
    private static final int BAD_VALUE = KiteStrings.BAD_VALUE;

    private SignsTest() {
    }

    public static void main(String[] args) {
        eachCodeAtEachPlace();
        noCharacter();
        oneToEight();
        aBitAboveZeros();
        theLowestBitsAreTheLastCharacter();
        wrongNumbersChangeNothing();
        eachCharacterAtEachPlaceOfAText();
        eachTextThatEndsTooEarly();
        theFirstFaultIsTold();
        eachOrderIsRead();
        Check.end("SignsTest");
    }

    // ---- numbers

    /** So many characters, all of them '0' but the one at a place, which counts from the last one. */
    private static long with(int characters, int place, int code) {
        long number = 0;
        for (int i = 0; i < characters; i++) {
            number |= (long) (i == place ? code : '0') << 8 * i;
        }
        return number;
    }

    private static void eachCodeAtEachPlace() {
        for (int characters = 1; characters <= 8; characters++) {
            for (int place = 0; place < characters; place++) {
                for (int code = 1; code <= 255; code++) {
                    KiteStrings k = new KiteStrings();
                    boolean fine = code >= 33 && code <= 126;
                    long number = with(characters, place, code);
                    Check.due("put(" + number + ")", k.put(number), fine ? characters : BAD_VALUE);
                    Check.due("length after put(" + number + ")", k.count(8), fine ? characters : 0);
                }
            }
        }
    }

    private static void noCharacter() {
        KiteStrings k = new KiteStrings();
        Check.due("put(0)", k.put(0), BAD_VALUE);
        k.put('0');
        Check.due("put(0) again", k.put(0), BAD_VALUE);
        Check.due("length", k.count(8), 1);
    }

    private static void oneToEight() {
        String signs = "!~0:+-;A";
        int length = 0;
        KiteStrings k = new KiteStrings();
        for (int characters = 1; characters <= 8; characters++) {
            length += characters;
            Check.due(characters + " characters", k.put(Check.number(signs.substring(0, characters))), length);
            Check.due("length", k.count(8), length);
        }
        Check.due("eight times the least code", k.put(0x2121212121212121L), 44);
        Check.due("eight times the greatest code", k.put(0x7e7e7e7e7e7e7e7eL), 52);
        Check.due("put is no change", k.count(9), 0);
    }

    /** Eight bits that are 0 at each place, and above them one bit, at each place of these; and below them anything. */
    private static void aBitAboveZeros() {
        for (int zeros = 0; zeros <= 7; zeros++) {
            long below = zeros == 0 ? 0 : with(zeros, 0, '0');
            for (int bit = 8 * zeros + 8; bit < 64; bit++) {
                long number = below | 1L << bit;
                KiteStrings k = new KiteStrings();
                Check.due("put(" + number + ")", k.put(number), BAD_VALUE);
                Check.due("length after put(" + number + ")", k.count(8), 0);
            }
            for (int place = zeros + 1; place < 8; place++) {
                long number = below | (long) '0' << 8 * place;
                Check.due("put(" + number + ")", new KiteStrings().put(number), BAD_VALUE);
            }
            KiteStrings fine = new KiteStrings();
            Check.due("put(" + below + ")", fine.put(below), zeros == 0 ? BAD_VALUE : zeros);
        }
        Check.due("put(Long.MIN_VALUE)", new KiteStrings().put(Long.MIN_VALUE), BAD_VALUE);
        Check.due("put(Long.MAX_VALUE)", new KiteStrings().put(Long.MAX_VALUE), BAD_VALUE);
        Check.due("put(-1)", new KiteStrings().put(-1), BAD_VALUE);
    }

    private static void theLowestBitsAreTheLastCharacter() {
        KiteStrings k = Scenes.one();
        Check.due("put", k.put((long) '0' << 24 | (long) ':' << 16 | (long) '-' << 8 | '2'), 4);
        Check.due("put", k.put((long) '+' << 8 | '3'), 6);
        Check.due("fault", k.fault(), KiteStrings.NONE);
        Check.due("carryOut", k.carryOut(), 1);
        Check.due("dx", k.kite(0, 3), 8);
        Check.due("dy", k.kite(0, 4), 13);
        Check.due("put", k.put((long) '2' << 24 | (long) '-' << 16 | (long) ':' << 8 | '0'), 4);
        Check.due("turned round it has a fault", k.fault(), 1);
    }

    private static void wrongNumbersChangeNothing() {
        String before = Check.everything(Scenes::mixed);
        long[] wrong = {0, 32, 127, 255, -1, 1L << 8, 1L << 63, with(8, 7, 32), with(8, 0, 127), with(3, 1, 0), with(8, 7, 200)};
        for (long number : wrong) {
            Check.due("put(" + number + ")", Scenes.mixed().put(number), BAD_VALUE);
            Check.same("after put(" + number + ")", Check.everything(() -> putTo(Scenes.mixed(), number)), before);
        }
        String full = Check.everything(Scenes::full);
        Check.due("put to a full pad", Scenes.full().put('0'), KiteStrings.TOO_MANY);
        Check.same("after put to a full pad", Check.everything(() -> putTo(Scenes.full(), '0')), full);
        Check.same("after a wrong put to a full pad", Check.everything(() -> putTo(Scenes.full(), 32)), full);
    }

    private static KiteStrings putTo(KiteStrings k, long number) {
        k.put(number);
        return k;
    }

    // ---- texts

    private static void fault(String text, int due) {
        KiteStrings k = new KiteStrings();
        Check.write(k, text);
        Check.due("the length of \"" + text + "\"", k.count(8), text.length());
        Check.due("the fault of \"" + text + "\"", k.fault(), due);
        Check.due("once more, of \"" + text + "\"", k.fault(), due);
        boolean isFine = due == KiteStrings.NONE;
        Check.due("carryOut of \"" + text + "\" without kites", k.carryOut(), isFine ? 0 : KiteStrings.BAD_TEXT);
        Check.due("the length later", k.count(8), isFine ? 0 : text.length());
    }

    /** The beginnings of texts, each with the characters that can stand behind it. */
    private static final String[][] BEGINNINGS = {
        {"", "012345"}, {"0", ":"}, {"5", ":"}, {"3:", "0+-"}, {"2:+", "123"}, {"2:-", "123"}, {"1:0", "0+-"},
        {"1:+3", "0+-"}, {"1:-1", "0+-"}, {"4:0+", "123"}, {"4:0-", "123"}, {"4:+2-", "123"}, {"4:-1+", "123"},
        {"0:00", ";"}, {"0:+10", ";"}, {"0:0-3", ";"}, {"5:-2+1", ";"}, {"0:00;", "012345"}, {"0:+1-1;", "012345"},
        {"0:00;4", ":"}, {"0:00;4:", "0+-"}, {"0:00;4:-", "123"}, {"0:00;4:-3", "0+-"}, {"0:00;4:-3+", "123"},
        {"0:00;4:-3+2", ";"}, {"0:00;1:0+3;", "012345"}};

    private static void eachCharacterAtEachPlaceOfAText() {
        for (String[] beginning : BEGINNINGS) {
            String start = beginning[0];
            for (char sign = 33; sign <= 126; sign++) {
                boolean canStand = beginning[1].indexOf(sign) >= 0;
                boolean ends = (start + sign).matches("([0-5]:(0|[-+][1-3]){2};)*[0-5]:(0|[-+][1-3]){2}");
                int due = !canStand ? start.length() : ends ? KiteStrings.NONE : start.length() + 1;
                fault(start + sign, due);
                if (!canStand) {
                    fault(start + sign + "0:00;0:00", start.length());
                }
            }
        }
    }

    private static void eachTextThatEndsTooEarly() {
        String[] texts = {"0:00;1:+1-1;2:0+3;3:-20", "5:-3-3;4:00;3:+20;2:0-1;1:+1+1;0:00"};
        for (String text : texts) {
            for (int length = 0; length <= text.length(); length++) {
                boolean atEnd = length == text.length() || text.charAt(length) == ';';
                fault(text.substring(0, length), atEnd ? KiteStrings.NONE : length);
            }
        }
    }

    private static void theFirstFaultIsTold() {
        fault("0:00;6:00;7:00", 5);
        fault("0;00;6:00", 1);
        fault("!!!!", 0);
        fault("0:+4;", 3);
        fault("0:00;;", 5);
        fault("0:000", 4);
        fault("0:0+11", 5);
        fault("~", 0);
        fault(";0:00", 0);
        fault("0:00,", 4);
    }

    /** All 49 orders for all six kites. */
    private static void eachOrderIsRead() {
        String[] steps = {"-3", "-2", "-1", "0", "+1", "+2", "+3"};
        for (int kite = 0; kite < 6; kite++) {
            for (int dx = -3; dx <= 3; dx++) {
                for (int dy = -3; dy <= 3; dy++) {
                    String text = kite + ":" + steps[dx + 3] + steps[dy + 3];
                    KiteStrings k = new KiteStrings();
                    for (int i = 0; i < 6; i++) {
                        k.launch(i, i, 1 + i, 0, 10);
                    }
                    Check.write(k, text + ";" + text);
                    Check.due("carryOut of " + text, k.carryOut(), 2);
                    for (int i = 0; i < 6; i++) {
                        Check.due("dx of " + i + " after " + text, k.kite(i, 3), i == kite ? dx + 10 : 10);
                        Check.due("dy of " + i + " after " + text, k.kite(i, 4), i == kite ? dy + 10 : 10);
                    }
                }
            }
        }
    }
}
