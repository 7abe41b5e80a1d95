import java.math.BigInteger;
import java.util.ArrayDeque;
import java.util.ArrayList;
import java.util.Arrays;
import java.util.List;
import java.util.regex.Matcher;
import java.util.regex.Pattern;

/**
 * The document a second time, slow and with the whole Java library: sides of lines for the crossings, a scan of
 * all places for the cuts, a copy of everything for each what-if, a regular expression for the texts.
 */
final class Model {
    private static final Pattern TEXT = Pattern.compile("[0-5]:(0|[+-][1-3]){2}(;[0-5]:(0|[+-][1-3]){2})*");

    /** A kite as the document tells of it. */
    static final class Kite implements Cloneable {
        int flyer;
        int x;
        int y;
        int dx;
        int dy;
        int glass;
        int strength;
        int points;
        int how;
        int[] launched;
        int[] wear = new int[32];

        Kite twin() {
            try {
                Kite twin = (Kite) clone();
                twin.wear = wear.clone();
                return twin;
            } catch (CloneNotSupportedException e) {
                throw new IllegalStateException(e);
            }
        }
    }

    /** Everything except the pad, the slots and the history. */
    static final class State {
        final List<Kite> kites = new ArrayList<>();
        int ticks;
        int round;
        int cuts;

        State twin() {
            State twin = new State();
            for (Kite kite : kites) {
                twin.kites.add(kite.twin());
            }
            twin.ticks = ticks;
            twin.round = round;
            twin.cuts = cuts;
            return twin;
        }
    }

    /** What one tick brought. */
    static final class Brought {
        int cut;
        int scorers;
        int points;
        final boolean[][] crossed = new boolean[6][6];
    }

    State state = new State();
    final ArrayDeque<State> history = new ArrayDeque<>();
    final State[] slots = new State[2];
    String pad = "";

    private void record() {
        history.addLast(state.twin());
        if (history.size() > 6) {
            history.removeFirst();
        }
    }

    private static boolean in(long value, long least, long most) {
        return least <= value && value <= most;
    }

    private boolean is(int kite) {
        return in(kite, 0, state.kites.size() - 1);
    }

    private static boolean up(State s, int kite) {
        return s.kites.get(kite).how == 0;
    }

    // ---- strings

    /** On which side of the line from (px, 0) to (qx, qy) a point lies: -1, 0 or 1. */
    private static int side(int px, int qx, int qy, int x, int y) {
        return Integer.signum((qx - px) * y - qy * (x - px));
    }

    private static boolean parts(Kite a, Kite b) {
        return side(a.flyer, a.x, a.y, b.flyer, 0) * side(a.flyer, a.x, a.y, b.x, b.y) < 0;
    }

    /** Each string has the ends of the other one on both its sides. */
    static boolean cross(State s, int i, int j) {
        if (i == j || !up(s, i) || !up(s, j)) {
            return false;
        }
        return parts(s.kites.get(i), s.kites.get(j)) && parts(s.kites.get(j), s.kites.get(i));
    }

    /** The greatest place whose beginning is not beyond the other string, seen from the flyer. */
    static int place(State s, int i, int j) {
        Kite a = s.kites.get(i);
        Kite b = s.kites.get(j);
        BigInteger flyerSide = beyond(a, b, 0);
        int place = 31;
        while (beyond(a, b, place).signum() == -flyerSide.signum()) {
            place--;
        }
        return place;
    }

    /** On which side of b the beginning of a place of a lies, all lengths 32 times as great. */
    private static BigInteger beyond(Kite a, Kite b, int place) {
        BigInteger x = BigInteger.valueOf(32L * a.flyer + (long) place * (a.x - a.flyer) - 32L * b.flyer);
        BigInteger y = BigInteger.valueOf((long) place * a.y);
        return BigInteger.valueOf(b.x - b.flyer).multiply(y).subtract(BigInteger.valueOf(b.y).multiply(x));
    }

    static boolean steep(State s, int i, int j) {
        Kite a = s.kites.get(i);
        Kite b = s.kites.get(j);
        double angleA = Math.atan2(a.y, a.x - a.flyer);
        double angleB = Math.atan2(b.y, b.x - b.flyer);
        double between = Math.abs(angleA - angleB);
        return between >= Math.PI / 4 - 1e-9 && between <= 3 * Math.PI / 4 + 1e-9;
    }

    static int sliding(State s, int i, int j) {
        Kite a = s.kites.get(i);
        Kite b = s.kites.get(j);
        return 1 + Math.abs(a.dx - b.dx) + Math.abs(a.dy - b.dy);
    }

    static int rub(State s, int i, int j) {
        return s.kites.get(j).glass * sliding(s, i, j) * (steep(s, i, j) ? 2 : 1);
    }

    static int crossings(State s) {
        int n = 0;
        for (int i = 0; i < s.kites.size(); i++) {
            for (int j = 0; j < i; j++) {
                n += cross(s, i, j) ? 1 : 0;
            }
        }
        return n;
    }

    static Brought tick(State s) {
        Brought brought = new Brought();
        int n = s.kites.size();
        for (Kite k : s.kites) {
            if (k.how != 0) {
                continue;
            }
            if (k.x + k.dx < 0 || k.x + k.dx > 63) {
                k.dx = -k.dx;
            } else {
                k.x += k.dx;
            }
            if (k.y + k.dy < 1 || k.y + k.dy > 47) {
                k.dy = -k.dy;
            } else {
                k.y += k.dy;
            }
        }
        for (int i = 0; i < n; i++) {
            for (int j = 0; j < n; j++) {
                brought.crossed[i][j] = cross(s, i, j);
                if (brought.crossed[i][j]) {
                    s.kites.get(i).wear[place(s, i, j)] += rub(s, i, j);
                }
            }
        }
        for (int i = 0; i < n; i++) {
            Kite k = s.kites.get(i);
            if (k.how == 0 && Arrays.stream(k.wear).max().getAsInt() >= k.strength) {
                brought.cut |= 1 << i;
            }
        }
        for (int i = 0; i < n; i++) {
            for (int j = 0; j < n; j++) {
                Kite k = s.kites.get(i);
                if ((brought.cut >> i & 1) == 1 && brought.crossed[i][j] && k.wear[place(s, i, j)] >= k.strength) {
                    s.kites.get(j).points++;
                    brought.points++;
                    brought.scorers |= 1 << j;
                }
            }
        }
        for (int i = 0; i < n; i++) {
            if ((brought.cut >> i & 1) == 1) {
                s.kites.get(i).how = 1;
            }
        }
        s.cuts += Integer.bitCount(brought.cut);
        s.ticks++;
        return brought;
    }

    // ---- changes

    int launch(int flyer, int x, int y, int glass, int strength) {
        if (!in(flyer, 0, 63) || !in(x, 0, 63) || !in(y, 1, 47) || !in(glass, 0, 5) || !in(strength, 10, 200)) {
            return -2;
        }
        if (state.kites.size() == 6) {
            return -4;
        }
        record();
        Kite k = new Kite();
        k.launched = new int[] {flyer, x, y};
        k.flyer = flyer;
        k.x = x;
        k.y = y;
        k.glass = glass;
        k.strength = strength;
        state.kites.add(k);
        return state.kites.size() - 1;
    }

    private int giveOrder(int kite, int dx, int dy, boolean recorded) {
        if (!is(kite)) {
            return -1;
        }
        if (!in(dx, -3, 3) || !in(dy, -3, 3)) {
            return -2;
        }
        if (!up(state, kite)) {
            return -5;
        }
        if (recorded) {
            record();
        }
        Kite k = state.kites.get(kite);
        int answer = 10 * Math.abs(dx - k.dx) + Math.abs(dy - k.dy);
        k.dx = dx;
        k.dy = dy;
        return answer;
    }

    int order(int kite, int dx, int dy) {
        return giveOrder(kite, dx, dy, true);
    }

    int step(int kite, int flyer) {
        if (!is(kite)) {
            return -1;
        }
        if (!in(flyer, 0, 63)) {
            return -2;
        }
        if (!up(state, kite)) {
            return -5;
        }
        record();
        int before = state.kites.get(kite).flyer;
        state.kites.get(kite).flyer = flyer;
        return before;
    }

    int land(int kite) {
        if (!is(kite)) {
            return -1;
        }
        if (!up(state, kite)) {
            return -5;
        }
        record();
        state.kites.get(kite).how = 2;
        return Arrays.stream(state.kites.get(kite).wear).max().getAsInt();
    }

    int pass(int ticks) {
        if (!in(ticks, 1, 200)) {
            return -2;
        }
        record();
        int cut = 0;
        for (int i = 0; i < ticks; i++) {
            cut |= tick(state).cut;
        }
        return cut;
    }

    int round() {
        record();
        for (Kite k : state.kites) {
            k.flyer = k.launched[0];
            k.x = k.launched[1];
            k.y = k.launched[2];
            k.dx = 0;
            k.dy = 0;
            k.how = 0;
            k.wear = new int[32];
        }
        return ++state.round;
    }

    int carryOut() {
        if (fault() != -6) {
            return -3;
        }
        record();
        int given = 0;
        for (String order : pad.split(";")) {
            Matcher steps = Pattern.compile("0|[+-]\\d").matcher(order.substring(2));
            steps.find();
            int dx = Integer.parseInt(steps.group());
            steps.find();
            int dy = Integer.parseInt(steps.group());
            if (giveOrder(order.charAt(0) - '0', dx, dy, false) < 0) {
                break;
            }
            given++;
        }
        pad = "";
        return given;
    }

    // ---- what there is

    int kite(int kite, int what) {
        if (!is(kite)) {
            return -1;
        }
        if (!in(what, 0, 11)) {
            return -2;
        }
        Kite k = state.kites.get(kite);
        int[] simple = {k.flyer, k.x, k.y, k.dx + 10, k.dy + 10, k.glass, k.strength, k.points, k.how};
        if (what < 9) {
            return simple[what];
        }
        if (k.how != 0) {
            return 0;
        }
        int most = Arrays.stream(k.wear).max().getAsInt();
        if (what == 9) {
            return most;
        }
        if (what == 10) {
            int place = 0;
            while (k.wear[place] != most) {
                place++;
            }
            return place;
        }
        int set = 0;
        for (int j = 0; j < state.kites.size(); j++) {
            set |= cross(state, kite, j) ? 1 << j : 0;
        }
        return set;
    }

    int wear(int kite, int place) {
        if (!is(kite) || !in(place, 0, 31)) {
            return -1;
        }
        return up(state, kite) ? state.kites.get(kite).wear[place] : -5;
    }

    int crossing(int kite, int other, int what) {
        if (!is(kite) || !is(other)) {
            return -1;
        }
        if (kite == other || !in(what, 0, 5)) {
            return -2;
        }
        if (!up(state, kite) || !up(state, other)) {
            return -5;
        }
        if (what == 4) {
            return sliding(state, kite, other);
        }
        if (!cross(state, kite, other)) {
            return what == 0 || what == 5 ? 0 : -6;
        }
        switch (what) {
            case 0: return 1;
            case 1: return place(state, kite, other);
            case 2: return place(state, other, kite);
            case 3: return steep(state, kite, other) ? 1 : 0;
            default: return rub(state, kite, other);
        }
    }

    private static int points(State s) {
        return s.kites.stream().mapToInt(k -> k.points).sum();
    }

    int count(int what) {
        switch (what) {
            case 0: return state.kites.size();
            case 1:
                int set = 0;
                for (int i = 0; i < state.kites.size(); i++) {
                    set |= up(state, i) ? 1 << i : 0;
                }
                return set;
            case 2: return crossings(state);
            case 3: return state.ticks;
            case 4: return state.round;
            case 5:
                int best = -6;
                for (int i = state.kites.size() - 1; i >= 0; i--) {
                    if (best < 0 || state.kites.get(i).points >= state.kites.get(best).points) {
                        best = i;
                    }
                }
                return best;
            case 6: return points(state);
            case 7: return state.cuts;
            case 8: return pad.length();
            case 9: return history.size();
            default: return -2;
        }
    }

    // ---- what if

    int ifPassed(int ticks, int what) {
        if (!in(ticks, 1, 200) || !in(what, 0, 2)) {
            return -2;
        }
        State s = state.twin();
        int cut = 0;
        int points = 0;
        for (int i = 0; i < ticks; i++) {
            Brought brought = tick(s);
            cut |= brought.cut;
            points += brought.points;
        }
        return what == 0 ? cut : what == 1 ? points : crossings(s);
    }

    int firstCut(int what) {
        if (!in(what, 0, 2)) {
            return -2;
        }
        State s = state.twin();
        for (int i = 1; i <= 300; i++) {
            Brought brought = tick(s);
            if (brought.cut != 0) {
                return what == 0 ? i : what == 1 ? Integer.numberOfTrailingZeros(brought.cut) : brought.scorers;
            }
        }
        return -6;
    }

    int meets(int kite, int other) {
        if (!is(kite) || !is(other)) {
            return -1;
        }
        if (kite == other) {
            return -2;
        }
        if (!up(state, kite) || !up(state, other)) {
            return -5;
        }
        if (cross(state, kite, other)) {
            return 0;
        }
        State s = state.twin();
        for (int i = 1; i <= 300; i++) {
            if (tick(s).crossed[kite][other]) {
                return i;
            }
        }
        return -6;
    }

    int bestOrder(int kite, int ticks, int what) {
        if (!is(kite)) {
            return -1;
        }
        if (!in(ticks, 1, 50) || !in(what, 0, 2)) {
            return -2;
        }
        if (!up(state, kite)) {
            return -5;
        }
        int[] best = null;
        for (int dx = 3; dx >= -3; dx--) {
            for (int dy = 3; dy >= -3; dy--) {
                State s = state.twin();
                s.kites.get(kite).dx = dx;
                s.kites.get(kite).dy = dy;
                for (int i = 0; i < ticks; i++) {
                    tick(s);
                }
                int gain = s.kites.get(kite).points - state.kites.get(kite).points - (up(s, kite) ? 0 : 2);
                if (best == null || gain >= best[2]) {
                    best = new int[] {dx, dy, gain};
                }
            }
        }
        return best[what] + 10;
    }

    // ---- texts

    int put(long characters) {
        String hex = String.format("%016x", characters);
        StringBuilder text = new StringBuilder();
        for (int i = 0; i < 16; i += 2) {
            int code = Integer.parseInt(hex.substring(i, i + 2), 16);
            if (code == 0 && text.length() == 0) {
                continue;
            }
            if (!in(code, 33, 126)) {
                return -2;
            }
            text.append((char) code);
        }
        if (text.length() == 0) {
            return -2;
        }
        if (pad.length() + text.length() > 60) {
            return -4;
        }
        pad += text;
        return pad.length();
    }

    int wipe() {
        int before = pad.length();
        pad = "";
        return before;
    }

    private static boolean canGoOn(String start) {
        Matcher matcher = TEXT.matcher(start);
        return matcher.matches() || matcher.hitEnd();
    }

    int fault() {
        if (TEXT.matcher(pad).matches()) {
            return -6;
        }
        for (int i = 0; i < pad.length(); i++) {
            if (!canGoOn(pad.substring(0, i + 1))) {
                return i;
            }
        }
        return pad.length();
    }

    // ---- undo, saving

    int undo() {
        if (history.isEmpty()) {
            return -5;
        }
        state = history.removeLast();
        return history.size();
    }

    int save(int slot) {
        if (!in(slot, 0, 1)) {
            return -2;
        }
        slots[slot] = state.twin();
        return state.kites.size();
    }

    int restore(int slot) {
        if (!in(slot, 0, 1)) {
            return -2;
        }
        if (slots[slot] == null) {
            return -5;
        }
        record();
        state = slots[slot].twin();
        return state.kites.size();
    }
}
