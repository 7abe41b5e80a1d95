/** What the tests share: comparing answers, and looking at a whole object. */
final class Check {
    private static int wrong = 0;
    private static int asked = 0;

    private Check() {
    }

    static void due(String call, long got, long want) {
        asked++;
        if (got != want) {
            wrong++;
            System.out.println(call + " answered " + got + ", due is " + want);
        }
    }

    static void same(String what, String got, String want) {
        asked++;
        if (!got.equals(want)) {
            wrong++;
            System.out.println(what + "\n  is     " + got + "\n  due is " + want);
        }
    }

    static void end(String test) {
        System.out.println(test + ": " + asked + " answers, " + wrong + " not as due");
        if (wrong != 0) {
            System.exit(1);
        }
    }

    /** All that can be asked of an object without a what-if. */
    static String look(KiteStrings k) {
        return battle(k) + " pad " + k.count(8) + " fault " + k.fault() + " undo " + k.count(9);
    }

    /** All that undo and restore bring back. */
    static String battle(KiteStrings k) {
        StringBuilder all = new StringBuilder();
        for (int what = 0; what <= 7; what++) {
            all.append(k.count(what)).append(' ');
        }
        for (int kite = 0; kite < k.count(0); kite++) {
            all.append("| ");
            for (int what = 0; what <= 11; what++) {
                all.append(k.kite(kite, what)).append(' ');
            }
            for (int place = 0; place < 32; place++) {
                all.append(k.wear(kite, place)).append(',');
            }
            for (int other = 0; other < k.count(0); other++) {
                for (int what = 0; what <= 5; what++) {
                    all.append(k.crossing(kite, other, what)).append('.');
                }
            }
        }
        return all.toString();
    }

    static void write(KiteStrings k, String text) {
        for (int at = 0; at < text.length(); at += 8) {
            k.put(number(text.substring(at, Math.min(text.length(), at + 8))));
        }
    }

    static long number(String characters) {
        long number = 0;
        for (int i = 0; i < characters.length(); i++) {
            number = number << 8 | characters.charAt(i);
        }
        return number;
    }

    /** Two kites whose strings cross in the middle of both, steeply. */
    static KiteStrings pair(int firstGlass, int firstStrength, int secondGlass, int secondStrength) {
        KiteStrings k = new KiteStrings();
        k.launch(10, 50, 40, firstGlass, firstStrength);
        k.launch(50, 10, 40, secondGlass, secondStrength);
        return k;
    }
}
