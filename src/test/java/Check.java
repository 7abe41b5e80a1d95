import java.util.function.Supplier;

/** What the tests share: comparing answers, and looking at a whole object. */
final class Check {
    private static int wrong = 0;
    private static int asked = 0;

    private Check() {
    }

    static void due(String call, long got, long want) {
        asked++;
        if (got != want) {
            wrong++;
            System.out.println(call + " answered " + got + ", due is " + want);
        }
    }

    static void same(String what, String got, String want) {
        asked++;
        if (!got.equals(want)) {
            wrong++;
            System.out.println(what + "\n  is     " + got + "\n  due is " + want);
        }
    }

    static void end(String test) {
        System.out.println(test + ": " + asked + " answers, " + wrong + " not as due");
        if (wrong != 0) {
            System.exit(1);
        }
    }

    /** What an object tells of itself and its kites in at most 83 calls: after 512 nothing is promised any more. */
    static String look(KiteStrings k) {
        return battle(k) + "pad " + k.count(8) + " fault " + k.fault() + " undo " + k.count(9);
    }

    /** Of that all that undo and restore bring back. */
    static String battle(KiteStrings k) {
        StringBuilder all = new StringBuilder();
        for (int what = 0; what <= 7; what++) {
            all.append(k.count(what)).append(' ');
        }
        for (int kite = 0; kite < 6 && k.kite(kite, 0) != KiteStrings.NO_SUCH; kite++) {
            all.append("| ");
            for (int what = 0; what <= 11; what++) {
                all.append(k.kite(kite, what)).append(' ');
            }
        }
        return all.toString();
    }

    /** The wear of all places, in at most 192 calls. */
    static String strings(KiteStrings k) {
        StringBuilder all = new StringBuilder();
        for (int kite = 0; kite < 6 && k.kite(kite, 0) != KiteStrings.NO_SUCH; kite++) {
            all.append("| ");
            for (int place = 0; place < 32 && k.kite(kite, 8) == KiteStrings.IN_THE_AIR; place++) {
                all.append(k.wear(kite, place)).append(',');
            }
        }
        return all.toString();
    }

    interface Change {
        void to(KiteStrings k);
    }

    /**
     * All that is held in an object: what there is, what can be undone, the slots, where kites were launched, and the
     * pad's orders. As no object is asked more than 512 times, it is made anew for each part.
     */
    static String everything(Supplier<KiteStrings> maker) {
        StringBuilder all = new StringBuilder();
        for (int undone = 0; undone <= 7; undone++) {
            int times = undone;
            part(all, "undone " + undone, maker, k -> {
                for (int i = 0; i < times; i++) {
                    all.append(' ').append(k.undo());
                }
            });
        }
        for (int slot = 0; slot < 2; slot++) {
            int which = slot;
            part(all, "slot " + slot, maker, k -> all.append(k.restore(which)));
            part(all, "launched, slot " + slot, maker, k -> all.append(k.restore(which)).append(' ').append(k.round()));
        }
        part(all, "launched", maker, k -> all.append(k.round()));
        part(all, "orders", maker, k -> all.append(k.carryOut()));
        return all.toString();
    }

    private static void part(StringBuilder all, String name, Supplier<KiteStrings> maker, Change change) {
        KiteStrings k = maker.get();
        all.append("\n    ").append(name).append(": ");
        change.to(k);
        all.append(": ").append(look(k)).append(strings(k));
    }

    static void write(KiteStrings k, String text) {
        for (int at = 0; at < text.length(); at += 8) {
            k.put(number(text.substring(at, Math.min(text.length(), at + 8))));
        }
    }

    static long number(String characters) {
        long number = 0;
        for (int i = 0; i < characters.length(); i++) {
            number = number << 8 | characters.charAt(i);
        }
        return number;
    }

    /** Two kites whose strings cross in the middle of both, steeply. */
    static KiteStrings pair(int firstGlass, int firstStrength, int secondGlass, int secondStrength) {
        KiteStrings k = new KiteStrings();
        k.launch(10, 50, 40, firstGlass, firstStrength);
        k.launch(50, 10, 40, secondGlass, secondStrength);
        return k;
    }
}
