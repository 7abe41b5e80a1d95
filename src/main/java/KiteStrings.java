/** A judge of kite battles. README.md tells how to use it; what each call answers is the document's to say. */
public final class KiteStrings {
    public static final int NO_SUCH = -1, BAD_VALUE = -2, BAD_TEXT = -3, TOO_MANY = -4, NOT_POSSIBLE = -5, NONE = -6;
    public static final int IN_THE_AIR = 0, CUT = 1, LANDED = 2;

    /** What a check answers when no error applies. */
    private static final int FINE = 0;

    private static final int MOST_KITES = 6;
    private static final int PLACES = 32;
    private static final int MOST_X = 63;
    private static final int LEAST_Y = 1;
    private static final int MOST_Y = 47;
    private static final int MOST_GLASS = 5;
    private static final int LEAST_STRENGTH = 10;
    private static final int MOST_STRENGTH = 200;
    private static final int MOST_STEP = 3;

    /** Numbers that may be below 0 are answered with this added, so that none is taken for an error. */
    private static final int LIFT = 10;

    private static final int MOST_TICKS_TO_PASS = 200;
    private static final int MOST_TICKS_TO_PLAN = 50;
    private static final int TICKS_FORESEEN = 300;
    private static final int LOSS_OF_A_CUT = 2;

    private static final int MOST_SIGNS = 60;
    private static final int SIGNS_OF_A_NUMBER = 8;
    private static final int LEAST_SIGN = 33;
    private static final int MOST_SIGN = 126;

    private static final int MOST_STATES = 6;

    private final Sky now = new Sky();
    /** Where the what-ifs are played; it is made once, as each bestOrder alone plays 49 times. */
    private final Sky trial = new Sky();
    private final Weave weave = new Weave();
    private final Tick tick = new Tick();
    private final History history = new History();
    private final Slot firstSlot = new Slot();
    private final Slot secondSlot = new Slot();
    private final Pad pad = new Pad();

    public KiteStrings() {
    }

    // ---- changes

    public int launch(int flyer, int x, int y, int glass, int strength) {
        if (!isWithin(flyer, 0, MOST_X) || !isWithin(x, 0, MOST_X) || !isWithin(y, LEAST_Y, MOST_Y)
                || !isWithin(glass, 0, MOST_GLASS) || !isWithin(strength, LEAST_STRENGTH, MOST_STRENGTH)) {
            return BAD_VALUE;
        }
        if (!now.hasRoom()) {
            return TOO_MANY;
        }
        history.record(now);
        return now.addKite(flyer, x, y, glass, strength);
    }

    public int order(int kite, int dx, int dy) {
        int error = errorOfOrder(kite, dx, dy);
        if (error != FINE) {
            return error;
        }
        history.record(now);
        return now.turn(kite, dx, dy);
    }

    public int step(int kite, int flyer) {
        if (!now.has(kite)) {
            return NO_SUCH;
        }
        if (!isWithin(flyer, 0, MOST_X)) {
            return BAD_VALUE;
        }
        if (!now.isFlying(kite)) {
            return NOT_POSSIBLE;
        }
        history.record(now);
        int before = now.flyer[kite];
        now.flyer[kite] = flyer;
        return before;
    }

    public int land(int kite) {
        if (!now.has(kite)) {
            return NO_SUCH;
        }
        if (!now.isFlying(kite)) {
            return NOT_POSSIBLE;
        }
        history.record(now);
        now.how[kite] = LANDED;
        return now.wearAt(kite, now.mostWornPlace(kite));
    }

    public int pass(int ticks) {
        if (!isWithin(ticks, 1, MOST_TICKS_TO_PASS)) {
            return BAD_VALUE;
        }
        history.record(now);
        int cutKites = 0;
        for (int i = 0; i < ticks; i++) {
            tick.happenIn(now);
            cutKites |= tick.cutKites;
        }
        return cutKites;
    }

    public int round() {
        history.record(now);
        now.beginAnew();
        return now.rounds;
    }

    public int carryOut() {
        if (pad.firstFault() != NONE) {
            return BAD_TEXT;
        }
        history.record(now);
        int given = giveOrdersOfPad();
        pad.clear();
        return given;
    }

    private int giveOrdersOfPad() {
        int given = 0;
        int at = 0;
        // Each order takes signs of the pad, so there are fewer orders than signs.
        for (int i = 0; i < MOST_SIGNS && at < pad.length; i++) {
            int dxAt = pad.afterKite(at);
            int dyAt = pad.afterStep(dxAt);
            int kite = pad.digitAt(at);
            int dx = pad.stepAt(dxAt);
            int dy = pad.stepAt(dyAt);
            if (errorOfOrder(kite, dx, dy) != FINE) {
                return given;
            }
            now.turn(kite, dx, dy);
            given++;
            at = pad.afterSemicolon(pad.afterStep(dyAt));
        }
        return given;
    }

    private int errorOfOrder(int kite, int dx, int dy) {
        if (!now.has(kite)) {
            return NO_SUCH;
        }
        if (!isWithin(dx, -MOST_STEP, MOST_STEP) || !isWithin(dy, -MOST_STEP, MOST_STEP)) {
            return BAD_VALUE;
        }
        return now.isFlying(kite) ? FINE : NOT_POSSIBLE;
    }

    // ---- what there is; nothing changes

    public int kite(int kite, int what) {
        if (!now.has(kite)) {
            return NO_SUCH;
        }
        if (!isWithin(what, 0, 11)) {
            return BAD_VALUE;
        }
        return what < 9 ? aboutKite(kite, what) : aboutString(kite, what);
    }

    private int aboutKite(int kite, int what) {
        switch (what) {
            case 0: return now.flyer[kite];
            case 1: return now.x[kite];
            case 2: return now.y[kite];
            case 3: return now.dx[kite] + LIFT;
            case 4: return now.dy[kite] + LIFT;
            case 5: return now.glass[kite];
            case 6: return now.strength[kite];
            case 7: return now.points[kite];
            default: return now.how[kite];
        }
    }

    private int aboutString(int kite, int what) {
        if (!now.isFlying(kite)) {
            return 0;
        }
        int place = now.mostWornPlace(kite);
        switch (what) {
            case 9: return now.wearAt(kite, place);
            case 10: return place;
            default:
                weave.measure(now);
                return weave.crossersOf(kite);
        }
    }

    public int wear(int kite, int place) {
        if (!now.has(kite) || !isWithin(place, 0, PLACES - 1)) {
            return NO_SUCH;
        }
        return now.isFlying(kite) ? now.wearAt(kite, place) : NOT_POSSIBLE;
    }

    public int crossing(int kite, int other, int what) {
        if (!now.has(kite) || !now.has(other)) {
            return NO_SUCH;
        }
        if (kite == other || !isWithin(what, 0, 5)) {
            return BAD_VALUE;
        }
        if (!now.isFlying(kite) || !now.isFlying(other)) {
            return NOT_POSSIBLE;
        }
        weave.measure(now);
        return aboutCrossing(kite, other, what);
    }

    private int aboutCrossing(int kite, int other, int what) {
        boolean cross = weave.cross(kite, other);
        switch (what) {
            case 0: return cross ? 1 : 0;
            case 1: return weave.placeOn(kite, other);
            case 2: return weave.placeOn(other, kite);
            case 3: return !cross ? NONE : weave.isSteep(kite, other) ? 1 : 0;
            case 4: return now.sliding(kite, other);
            default: return cross ? now.rubbing(kite, other, weave.isSteep(kite, other)) : 0;
        }
    }

    public int count(int what) {
        switch (what) {
            case 0: return now.kites;
            case 1: return now.flyingKites();
            case 2:
                weave.measure(now);
                return weave.crossings();
            case 3: return now.ticks;
            case 4: return now.rounds;
            case 5: return now.leader();
            case 6: return now.allPoints();
            case 7: return now.cuts;
            case 8: return pad.length;
            case 9: return history.held;
            default: return BAD_VALUE;
        }
    }

    // ---- what if; nothing changes

    public int ifPassed(int ticks, int what) {
        if (!isWithin(ticks, 1, MOST_TICKS_TO_PASS) || !isWithin(what, 0, 2)) {
            return BAD_VALUE;
        }
        trial.copyFrom(now);
        int cutKites = 0;
        for (int i = 0; i < ticks; i++) {
            tick.happenIn(trial);
            cutKites |= tick.cutKites;
        }
        switch (what) {
            case 0: return cutKites;
            case 1: return trial.allPoints() - now.allPoints();
            default:
                // The last tick measured before it cut; what it cut crosses nothing any more.
                weave.measure(trial);
                return weave.crossings();
        }
    }

    public int firstCut(int what) {
        if (!isWithin(what, 0, 2)) {
            return BAD_VALUE;
        }
        trial.copyFrom(now);
        for (int ticks = 1; ticks <= TICKS_FORESEEN; ticks++) {
            tick.happenIn(trial);
            if (tick.cutKites != 0) {
                return aboutCut(ticks, what);
            }
        }
        return NONE;
    }

    private int aboutCut(int ticks, int what) {
        switch (what) {
            case 0: return ticks;
            case 1: return lowestOf(tick.cutKites);
            default: return tick.scorers;
        }
    }

    public int meets(int kite, int other) {
        if (!now.has(kite) || !now.has(other)) {
            return NO_SUCH;
        }
        if (kite == other) {
            return BAD_VALUE;
        }
        if (!now.isFlying(kite) || !now.isFlying(other)) {
            return NOT_POSSIBLE;
        }
        weave.measure(now);
        if (weave.cross(kite, other)) {
            return 0;
        }
        trial.copyFrom(now);
        for (int ticks = 1; ticks <= TICKS_FORESEEN; ticks++) {
            tick.happenIn(trial);
            // A tick keeps the crossings from before its cuts: strings that are cut with it have met.
            if (tick.weave.cross(kite, other)) {
                return ticks;
            }
        }
        return NONE;
    }

    public int bestOrder(int kite, int ticks, int what) {
        if (!now.has(kite)) {
            return NO_SUCH;
        }
        if (!isWithin(ticks, 1, MOST_TICKS_TO_PLAN) || !isWithin(what, 0, 2)) {
            return BAD_VALUE;
        }
        if (!now.isFlying(kite)) {
            return NOT_POSSIBLE;
        }
        int bestDx = -MOST_STEP;
        int bestDy = -MOST_STEP;
        int bestGain = -LOSS_OF_A_CUT - 1;
        for (int dx = -MOST_STEP; dx <= MOST_STEP; dx++) {
            for (int dy = -MOST_STEP; dy <= MOST_STEP; dy++) {
                int gain = gainWith(kite, dx, dy, ticks);
                // Only more replaces what was found: of equals the least dx and dy stay.
                if (gain > bestGain) {
                    bestGain = gain;
                    bestDx = dx;
                    bestDy = dy;
                }
            }
        }
        switch (what) {
            case 0: return bestDx + LIFT;
            case 1: return bestDy + LIFT;
            default: return bestGain + LIFT;
        }
    }

    private int gainWith(int kite, int dx, int dy, int ticks) {
        trial.copyFrom(now);
        trial.turn(kite, dx, dy);
        // A kite that is cut gets no points any more, so the rest need not be played.
        for (int i = 0; i < ticks && trial.isFlying(kite); i++) {
            tick.happenIn(trial);
        }
        int points = trial.points[kite] - now.points[kite];
        return trial.isFlying(kite) ? points : points - LOSS_OF_A_CUT;
    }

    // ---- texts

    public int put(long characters) {
        int signs = signsIn(characters);
        if (signs == 0) {
            return BAD_VALUE;
        }
        if (pad.length + signs > MOST_SIGNS) {
            return TOO_MANY;
        }
        for (int i = signs - 1; i >= 0; i--) {
            pad.append(signAt(characters, i));
        }
        return pad.length;
    }

    /** How many characters a number gives; 0 if it gives none or is not as it has to be. */
    private static int signsIn(long characters) {
        for (int i = 0; i < SIGNS_OF_A_NUMBER; i++) {
            int sign = signAt(characters, i);
            if (sign == 0) {
                return characters >>> (8 * i) == 0 ? i : 0;
            }
            if (!isWithin(sign, LEAST_SIGN, MOST_SIGN)) {
                return 0;
            }
        }
        return SIGNS_OF_A_NUMBER;
    }

    private static int signAt(long characters, int fromTheLast) {
        return (int) (characters >>> (8 * fromTheLast) & 255);
    }

    public int wipe() {
        int before = pad.length;
        pad.clear();
        return before;
    }

    public int fault() {
        return pad.firstFault();
    }

    // ---- undo, saving

    public int undo() {
        if (history.held == 0) {
            return NOT_POSSIBLE;
        }
        history.takeBack(now);
        return history.held;
    }

    public int save(int slot) {
        if (!isWithin(slot, 0, 1)) {
            return BAD_VALUE;
        }
        Slot chosen = slotOf(slot);
        chosen.sky.copyFrom(now);
        chosen.isFilled = true;
        return now.kites;
    }

    public int restore(int slot) {
        if (!isWithin(slot, 0, 1)) {
            return BAD_VALUE;
        }
        Slot chosen = slotOf(slot);
        if (!chosen.isFilled) {
            return NOT_POSSIBLE;
        }
        history.record(now);
        now.copyFrom(chosen.sky);
        return now.kites;
    }

    private Slot slotOf(int slot) {
        return slot == 0 ? firstSlot : secondSlot;
    }

    // ---- small helpers

    private static boolean isWithin(int value, int least, int most) {
        return value >= least && value <= most;
    }

    private static int lowestOf(int set) {
        for (int i = 0; i < MOST_KITES; i++) {
            if ((set >> i & 1) == 1) {
                return i;
            }
        }
        return NONE;
    }

    /** The kites and the battle's numbers: all that undo and the slots bring back. */
    private static final class Sky {
        int kites;
        int ticks;
        int rounds;
        int cuts;
        final int[] flyer = new int[MOST_KITES];
        final int[] x = new int[MOST_KITES];
        final int[] y = new int[MOST_KITES];
        final int[] dx = new int[MOST_KITES];
        final int[] dy = new int[MOST_KITES];
        final int[] glass = new int[MOST_KITES];
        final int[] strength = new int[MOST_KITES];
        final int[] points = new int[MOST_KITES];
        final int[] how = new int[MOST_KITES];
        final int[] firstFlyer = new int[MOST_KITES];
        final int[] firstX = new int[MOST_KITES];
        final int[] firstY = new int[MOST_KITES];
        /** The wear of all strings, one string's places after the other's. */
        final int[] wears = new int[MOST_KITES * PLACES];

        Sky() {
        }

        void copyFrom(Sky other) {
            kites = other.kites;
            ticks = other.ticks;
            rounds = other.rounds;
            cuts = other.cuts;
            copyRow(other.flyer, flyer);
            copyRow(other.x, x);
            copyRow(other.y, y);
            copyRow(other.dx, dx);
            copyRow(other.dy, dy);
            copyRow(other.glass, glass);
            copyRow(other.strength, strength);
            copyRow(other.points, points);
            copyRow(other.how, how);
            copyRow(other.firstFlyer, firstFlyer);
            copyRow(other.firstX, firstX);
            copyRow(other.firstY, firstY);
            copyRow(other.wears, wears);
        }

        private static void copyRow(int[] from, int[] to) {
            System.arraycopy(from, 0, to, 0, Math.min(from.length, to.length));
        }

        /** The last test is always true: there are never more. It shows that the number fits the rows. */
        boolean has(int kite) {
            return kite >= 0 && kite < kites && kite < MOST_KITES;
        }

        boolean isFlying(int kite) {
            return has(kite) && how[kite] == IN_THE_AIR;
        }

        boolean hasRoom() {
            return kites >= 0 && kites < MOST_KITES;
        }

        /** Adds a kite; the caller has seen that there is room. */
        int addKite(int flyerAt, int xAt, int yAt, int glassOn, int strengthOf) {
            int kite = kites;
            firstFlyer[kite] = flyerAt;
            firstX[kite] = xAt;
            firstY[kite] = yAt;
            glass[kite] = glassOn;
            strength[kite] = strengthOf;
            points[kite] = 0;
            sendUp(kite);
            kites++;
            return kite;
        }

        private void sendUp(int kite) {
            flyer[kite] = firstFlyer[kite];
            x[kite] = firstX[kite];
            y[kite] = firstY[kite];
            dx[kite] = 0;
            dy[kite] = 0;
            how[kite] = IN_THE_AIR;
            for (int place = 0; place < PLACES; place++) {
                wears[kite * PLACES + place] = 0;
            }
        }

        void beginAnew() {
            for (int kite = 0; kite < MOST_KITES; kite++) {
                if (has(kite)) {
                    sendUp(kite);
                }
            }
            rounds++;
        }

        int turn(int kite, int newDx, int newDy) {
            int change = 10 * Math.abs(newDx - dx[kite]) + Math.abs(newDy - dy[kite]);
            dx[kite] = newDx;
            dy[kite] = newDy;
            return change;
        }

        void move(int kite) {
            int newX = x[kite] + dx[kite];
            if (isWithin(newX, 0, MOST_X)) {
                x[kite] = newX;
            } else {
                dx[kite] = -dx[kite];
            }
            int newY = y[kite] + dy[kite];
            if (isWithin(newY, LEAST_Y, MOST_Y)) {
                y[kite] = newY;
            } else {
                dy[kite] = -dy[kite];
            }
        }

        int sliding(int kite, int other) {
            return 1 + Math.abs(dx[kite] - dx[other]) + Math.abs(dy[kite] - dy[other]);
        }

        /** By how much a string is worn by another one that crosses it. */
        int rubbing(int kite, int other, boolean isSteep) {
            if (!has(kite) || !has(other)) {
                return 0;
            }
            int once = glass[other] * sliding(kite, other);
            return isSteep ? 2 * once : once;
        }

        private boolean hasPlace(int kite, int place) {
            return has(kite) && isWithin(place, 0, PLACES - 1);
        }

        int wearAt(int kite, int place) {
            return hasPlace(kite, place) ? wears[kite * PLACES + place] : 0;
        }

        void wearDown(int kite, int place, int by) {
            if (hasPlace(kite, place)) {
                wears[kite * PLACES + place] += by;
            }
        }

        boolean isWornThrough(int kite, int place) {
            return has(kite) && wearAt(kite, place) >= strength[kite];
        }

        int mostWornPlace(int kite) {
            int most = 0;
            for (int place = 1; place < PLACES; place++) {
                if (wearAt(kite, place) > wearAt(kite, most)) {
                    most = place;
                }
            }
            return most;
        }

        int flyingKites() {
            int set = 0;
            for (int kite = 0; kite < MOST_KITES; kite++) {
                if (isFlying(kite)) {
                    set |= 1 << kite;
                }
            }
            return set;
        }

        int leader() {
            if (kites == 0) {
                return NONE;
            }
            int best = 0;
            for (int kite = 1; kite < MOST_KITES; kite++) {
                if (has(kite) && points[kite] > points[best]) {
                    best = kite;
                }
            }
            return best;
        }

        int allPoints() {
            int sum = 0;
            for (int kite = 0; kite < MOST_KITES; kite++) {
                if (has(kite)) {
                    sum += points[kite];
                }
            }
            return sum;
        }
    }

    /**
     * The crossings of a sky. Each one is noted twice, once for each of both strings, so that who wears a string
     * and who cuts it is found in one go over the notes.
     */
    private static final class Weave {
        private static final int MOST_NOTES = MOST_KITES * (MOST_KITES - 1);

        /** The kite whose string it is, the kite whose string crosses it, and at which place. */
        final int[] owners = new int[MOST_NOTES];
        final int[] crossers = new int[MOST_NOTES];
        final int[] places = new int[MOST_NOTES];
        final boolean[] steep = new boolean[MOST_NOTES];
        int notes;

        Weave() {
        }

        void measure(Sky sky) {
            notes = 0;
            for (int kite = 0; kite < MOST_KITES; kite++) {
                if (sky.isFlying(kite)) {
                    for (int other = kite + 1; other < MOST_KITES; other++) {
                        if (sky.isFlying(other)) {
                            measurePair(sky, kite, other);
                        }
                    }
                }
            }
        }

        /**
         * With u and v the ways along both strings, and gap from the one flyer to the other, the lines meet
         * gap * v2 / turn of the way along the first one and gap * u2 / turn along the second one. All ends are
         * left out, so both parts have to be more than 0 and less than 1.
         */
        private void measurePair(Sky sky, int kite, int other) {
            int u1 = sky.x[kite] - sky.flyer[kite];
            int u2 = sky.y[kite];
            int v1 = sky.x[other] - sky.flyer[other];
            int v2 = sky.y[other];
            int gap = sky.flyer[other] - sky.flyer[kite];
            int turn = u1 * v2 - u2 * v1;
            int whole = Math.abs(turn);
            // As u2 and v2 are more than 0, both parts are so only if gap and turn have the same sign.
            if (whole == 0 || gap * turn <= 0) {
                return;
            }
            int first = Math.abs(gap) * v2;
            int second = Math.abs(gap) * u2;
            if (first >= whole || second >= whole) {
                return;
            }
            boolean isSteep = whole >= Math.abs(u1 * v1 + u2 * v2);
            note(kite, other, PLACES * first / whole, isSteep);
            note(other, kite, PLACES * second / whole, isSteep);
        }

        private void note(int owner, int crosser, int place, boolean isSteep) {
            if (notes < 0 || notes >= MOST_NOTES) {
                return;
            }
            owners[notes] = owner;
            crossers[notes] = crosser;
            places[notes] = place;
            steep[notes] = isSteep;
            notes++;
        }

        int crossings() {
            return notes / 2;
        }

        private int noteOf(int owner, int crosser) {
            for (int i = 0; i < notes && i < MOST_NOTES; i++) {
                if (owners[i] == owner && crossers[i] == crosser) {
                    return i;
                }
            }
            return NONE;
        }

        boolean cross(int owner, int crosser) {
            return noteOf(owner, crosser) != NONE;
        }

        /** The place on the owner's string, NONE if the crosser's does not cross it. */
        int placeOn(int owner, int crosser) {
            int note = noteOf(owner, crosser);
            return note == NONE ? NONE : places[note];
        }

        boolean isSteep(int owner, int crosser) {
            int note = noteOf(owner, crosser);
            return note != NONE && steep[note];
        }

        int crossersOf(int owner) {
            int set = 0;
            for (int i = 0; i < notes && i < MOST_NOTES; i++) {
                if (owners[i] == owner) {
                    set |= 1 << crossers[i];
                }
            }
            return set;
        }
    }

    /** Plays one tick in a sky, and keeps what came of it until the next one. */
    private static final class Tick {
        final Weave weave = new Weave();
        int cutKites;
        int scorers;

        Tick() {
        }

        void happenIn(Sky sky) {
            for (int kite = 0; kite < MOST_KITES; kite++) {
                if (sky.isFlying(kite)) {
                    sky.move(kite);
                }
            }
            sky.ticks++;
            cutKites = 0;
            scorers = 0;
            weave.measure(sky);
            wearStrings(sky);
            givePoints(sky);
            if (cutKites != 0) {
                cutStrings(sky);
            }
        }

        private void wearStrings(Sky sky) {
            for (int i = 0; i < weave.notes && i < Weave.MOST_NOTES; i++) {
                int owner = weave.owners[i];
                int by = sky.rubbing(owner, weave.crossers[i], weave.steep[i]);
                sky.wearDown(owner, weave.places[i], by);
            }
        }

        /**
         * A kite in the air had no place worn through before this tick, so it is enough to look where it is
         * crossed now. The cuts come after all points, as a kite that is cut gets its points, too.
         */
        private void givePoints(Sky sky) {
            for (int i = 0; i < weave.notes && i < Weave.MOST_NOTES; i++) {
                int owner = weave.owners[i];
                int scorer = weave.crossers[i];
                if (sky.isWornThrough(owner, weave.places[i]) && sky.has(scorer)) {
                    sky.points[scorer]++;
                    scorers |= 1 << scorer;
                    cutKites |= 1 << owner;
                }
            }
        }

        private void cutStrings(Sky sky) {
            for (int kite = 0; kite < MOST_KITES; kite++) {
                if ((cutKites >> kite & 1) == 1) {
                    sky.how[kite] = CUT;
                    sky.cuts++;
                }
            }
        }
    }

    /** The latest states in a ring, so that the oldest one is overwritten when there are too many. */
    private static final class History {
        private final Sky[] states = new Sky[MOST_STATES];
        private int next;
        int held;

        History() {
            for (int i = 0; i < MOST_STATES; i++) {
                states[i] = new Sky();
            }
        }

        void record(Sky sky) {
            Sky state = stateAt(next);
            if (state == null) {
                return;
            }
            state.copyFrom(sky);
            next = next + 1 < MOST_STATES ? next + 1 : 0;
            held = Math.min(held + 1, MOST_STATES);
        }

        void takeBack(Sky sky) {
            int latest = next > 0 ? next - 1 : MOST_STATES - 1;
            Sky state = stateAt(latest);
            if (state == null || held == 0) {
                return;
            }
            sky.copyFrom(state);
            next = latest;
            held--;
        }

        private Sky stateAt(int at) {
            return at >= 0 && at < states.length ? states[at] : null;
        }
    }

    /** A place for a saved state. */
    private static final class Slot {
        final Sky sky = new Sky();
        boolean isFilled;

        Slot() {
        }
    }

    /** The text of orders. */
    private static final class Pad {
        /** What may stand next while the text is read. */
        private static final int A_KITE = 0, A_COLON = 1, FIRST_STEP = 2, FIRST_DIGIT = 3, SECOND_STEP = 4,
                SECOND_DIGIT = 5, A_SEMICOLON = 6;

        private final char[] signs = new char[MOST_SIGNS];
        int length;

        Pad() {
        }

        void append(int sign) {
            if (length >= 0 && length < signs.length) {
                signs[length] = (char) sign;
                length++;
            }
        }

        void clear() {
            length = 0;
        }

        /** The index of the text's fault, NONE if it has none. */
        int firstFault() {
            int expected = A_KITE;
            for (int at = 0; at < length; at++) {
                expected = expectedAfter(expected, signAt(at));
                if (expected == NONE) {
                    return at;
                }
            }
            return expected == A_SEMICOLON ? NONE : length;
        }

        /** What may stand behind a sign, NONE if the sign itself can't stand where it does. */
        private static int expectedAfter(int expected, int sign) {
            switch (expected) {
                case A_KITE: return isWithin(sign, '0', '5') ? A_COLON : NONE;
                case A_COLON: return sign == ':' ? FIRST_STEP : NONE;
                case FIRST_STEP: return afterStartOfStep(sign, FIRST_DIGIT, SECOND_STEP);
                case FIRST_DIGIT: return isWithin(sign, '1', '3') ? SECOND_STEP : NONE;
                case SECOND_STEP: return afterStartOfStep(sign, SECOND_DIGIT, A_SEMICOLON);
                case SECOND_DIGIT: return isWithin(sign, '1', '3') ? A_SEMICOLON : NONE;
                default: return sign == ';' ? A_KITE : NONE;
            }
        }

        private static int afterStartOfStep(int sign, int digit, int next) {
            if (sign == '0') {
                return next;
            }
            return sign == '+' || sign == '-' ? digit : NONE;
        }

        /** 0 where there is no sign: no character of a text is that. */
        private int signAt(int at) {
            return at >= 0 && at < length && at < signs.length ? signs[at] : 0;
        }

        int digitAt(int at) {
            return signAt(at) - '0';
        }

        int stepAt(int at) {
            int sign = signAt(at);
            if (sign == '0') {
                return 0;
            }
            return sign == '-' ? -digitAt(at + 1) : digitAt(at + 1);
        }

        int afterKite(int at) {
            return at + 2;
        }

        int afterStep(int at) {
            return signAt(at) == '0' ? at + 1 : at + 2;
        }

        int afterSemicolon(int at) {
            return at + 1;
        }
    }
}
