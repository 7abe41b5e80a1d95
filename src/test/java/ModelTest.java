import java.util.Random;

/**
 * All promises at once: runs of 512 calls, the most that an object is used for, answered by the class and by the model.
 * The runs are the same each time.
 */
final class ModelTest {
    private static final int RUNS = 600;
    private static final int CALLS = 512;
    private static final String[] ORDERS = {
        "0:00", "1:+1-1", "2:-30", "0:0+2", "3:-2-2", "4:+3+3", "5:0-1", "1:-1+3", "2:+2-3", "3:+1+1"};

    private final Random random;
    private final KiteStrings real = new KiteStrings();
    private final Model model = new Model();
    /** How many what-ifs may still be asked: they are dear in the model. */
    private int dear = 12;
    private final StringBuilder calls = new StringBuilder();

    private ModelTest(long seed) {
        random = new Random(seed);
    }

    public static void main(String[] args) {
        int runs = args.length > 0 ? Integer.parseInt(args[0]) : RUNS;
        for (int run = 0; run < runs; run++) {
            new ModelTest(run).play(run);
        }
        Check.end("ModelTest");
    }

    private void play(int run) {
        for (int call = 0; call < CALLS; call++) {
            if (!one(run)) {
                System.out.println("run " + run + ":" + calls);
                return;
            }
        }
    }

    private boolean told(String call, long got, long want, int run) {
        calls.append("\n  ").append(call).append(" -> ").append(got);
        Check.due("run " + run + " " + call, got, want);
        return got == want;
    }

    /** Mostly from least to most, now and then next to it or far out. */
    private int from(int least, int most) {
        int kind = random.nextInt(60);
        if (kind == 0) {
            return least - 1;
        }
        if (kind == 1) {
            return most + 1;
        }
        if (kind == 2) {
            return random.nextInt();
        }
        if (kind < 6) {
            return kind % 2 == 0 ? least : most;
        }
        return least + random.nextInt(most - least + 1);
    }

    private int someKite() {
        int kites = Math.max(1, model.count(0));
        return random.nextInt(25) == 0 ? from(0, 5) : random.nextInt(kites);
    }

    private boolean one(int run) {
        int kind = random.nextInt(100);
        if (kind < 45) {
            return change(kind, run);
        }
        if (kind < 80) {
            return look(kind, run);
        }
        return kind < 86 ? whatIf(kind, run) : textOrUndo(kind, run);
    }

    private boolean change(int kind, int run) {
        if (kind < 9) {
            int flyer = from(0, 63);
            int x = random.nextBoolean() ? from(0, 63) : Math.floorMod(63 - flyer, 64);
            int y = from(1, 47);
            int glass = from(0, 5);
            int strength = from(10, 200);
            return told("launch(" + flyer + ", " + x + ", " + y + ", " + glass + ", " + strength + ")",
                real.launch(flyer, x, y, glass, strength), model.launch(flyer, x, y, glass, strength), run);
        }
        int kite = someKite();
        if (kind < 22) {
            int dx = from(-3, 3);
            int dy = from(-3, 3);
            return told("order(" + kite + ", " + dx + ", " + dy + ")", real.order(kite, dx, dy),
                model.order(kite, dx, dy), run);
        }
        if (kind < 27) {
            int flyer = from(0, 63);
            return told("step(" + kite + ", " + flyer + ")", real.step(kite, flyer), model.step(kite, flyer), run);
        }
        if (kind < 28) {
            return told("land(" + kite + ")", real.land(kite), model.land(kite), run);
        }
        if (kind < 41) {
            int ticks = random.nextInt(8) == 0 ? from(1, 200) : from(1, 6);
            return told("pass(" + ticks + ")", real.pass(ticks), model.pass(ticks), run);
        }
        if (kind < 43) {
            return told("round()", real.round(), model.round(), run);
        }
        return told("carryOut()", real.carryOut(), model.carryOut(), run);
    }

    private boolean look(int kind, int run) {
        int kite = someKite();
        if (kind < 56) {
            int what = from(0, 11);
            return told("kite(" + kite + ", " + what + ")", real.kite(kite, what), model.kite(kite, what), run);
        }
        if (kind < 63) {
            int place = from(0, 31);
            return told("wear(" + kite + ", " + place + ")", real.wear(kite, place), model.wear(kite, place), run);
        }
        if (kind < 72) {
            int other = someKite();
            int what = from(0, 5);
            return told("crossing(" + kite + ", " + other + ", " + what + ")", real.crossing(kite, other, what),
                model.crossing(kite, other, what), run);
        }
        int what = from(0, 9);
        return told("count(" + what + ")", real.count(what), model.count(what), run);
    }

    private boolean whatIf(int kind, int run) {
        if (dear == 0) {
            return true;
        }
        dear--;
        int kite = someKite();
        int what = from(0, 2);
        if (kind == 80) {
            int ticks = random.nextBoolean() ? from(1, 200) : from(1, 10);
            return told("ifPassed(" + ticks + ", " + what + ")", real.ifPassed(ticks, what),
                model.ifPassed(ticks, what), run);
        }
        if (kind == 81) {
            return told("firstCut(" + what + ")", real.firstCut(what), model.firstCut(what), run);
        }
        if (kind < 84) {
            int other = someKite();
            return told("meets(" + kite + ", " + other + ")", real.meets(kite, other), model.meets(kite, other), run);
        }
        int ticks = random.nextInt(4) == 0 ? from(1, 50) : from(1, 10);
        return told("bestOrder(" + kite + ", " + ticks + ", " + what + ")", real.bestOrder(kite, ticks, what),
            model.bestOrder(kite, ticks, what), run);
    }

    private boolean textOrUndo(int kind, int run) {
        if (kind < 92) {
            return write(run);
        }
        if (kind == 92) {
            return told("wipe()", real.wipe(), model.wipe(), run);
        }
        if (kind < 95) {
            return told("fault()", real.fault(), model.fault(), run);
        }
        if (kind < 97) {
            return told("undo()", real.undo(), model.undo(), run);
        }
        int slot = from(0, 1);
        if (kind < 98) {
            return told("save(" + slot + ")", real.save(slot), model.save(slot), run);
        }
        return told("restore(" + slot + ")", real.restore(slot), model.restore(slot), run);
    }

    private boolean write(int run) {
        StringBuilder text = new StringBuilder();
        text.append(model.count(8) == 0 ? "" : ";").append(ORDERS[random.nextInt(ORDERS.length)]);
        int kind = random.nextInt(12);
        if (kind == 0) {
            text.setCharAt(random.nextInt(text.length()), "0123456:;+-a!~".charAt(random.nextInt(14)));
        }
        if (kind == 1) {
            text.setLength(1 + random.nextInt(text.length()));
        }
        long characters = Check.number(text.toString());
        if (kind == 2) {
            characters = random.nextInt(3) == 0 ? random.nextLong() : characters ^ 255L << 8 * random.nextInt(8);
        }
        if (kind == 3) {
            characters &= ~(255L << 8 * random.nextInt(8));
        }
        return told("put(" + characters + ")", real.put(characters), model.put(characters), run);
    }
}
