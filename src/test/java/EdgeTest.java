/** All promises: each call with all of the values at and around its edges, in several states, beside the model. */
final class EdgeTest {
    private static final int[] VALUES = {
        Integer.MIN_VALUE, -1000, -11, -4, -3, -1, 0, 1, 2, 3, 4, 5, 6, 7, 9, 10, 11, 12, 31, 32, 47, 48, 50, 51, 63, 64,
        200, 201, 300, Integer.MAX_VALUE};

    private KiteStrings real = new KiteStrings();
    private Model model = new Model();

    private EdgeTest() {
    }

    public static void main(String[] args) {
        for (int state = 0; state < 4; state++) {
            for (int value : VALUES) {
                new EdgeTest().withOne(state, value);
                for (int second : VALUES) {
                    new EdgeTest().withTwo(state, value, second);
                }
            }
            new EdgeTest().withThree(state);
            new EdgeTest().launches(state);
        }
        Check.end("EdgeTest");
    }

    private void set(int state) {
        real = new KiteStrings();
        model = new Model();
        int kites = state == 0 ? 0 : state == 1 ? 1 : state == 2 ? 4 : 6;
        for (int i = 0; i < kites; i++) {
            real.launch(10 * i, 60 - 9 * i, 20 + 3 * i, i % 6, 40);
            model.launch(10 * i, 60 - 9 * i, 20 + 3 * i, i % 6, 40);
        }
        real.land(3);
        model.land(3);
        if (state >= 2) {
            real.pass(3);
            model.pass(3);
            real.save(1);
            model.save(1);
        }
    }

    private void due(String call, int got, int want) {
        Check.due(call, got, want);
    }

    private void withOne(int state, int a) {
        set(state);
        due("count " + a, real.count(a), model.count(a));
        due("firstCut " + a, real.firstCut(a), model.firstCut(a));
        due("put " + a, real.put(a), model.put(a));
        due("save " + a, real.save(a), model.save(a));
        due("land " + a, real.land(a), model.land(a));
        due("pass " + a, real.pass(a), model.pass(a));
        due("restore " + a, real.restore(a), model.restore(a));
        due("undo", real.undo(), model.undo());
        due("round", real.round(), model.round());
        due("count 9", real.count(9), model.count(9));
    }

    private void withTwo(int state, int a, int b) {
        set(state);
        String values = a + ", " + b;
        due("kite " + values, real.kite(a, b), model.kite(a, b));
        due("wear " + values, real.wear(a, b), model.wear(a, b));
        due("ifPassed " + values, real.ifPassed(a, b), model.ifPassed(a, b));
        due("meets " + values, real.meets(a, b), model.meets(a, b));
        due("step " + values, real.step(a, b), model.step(a, b));
        due("count 9", real.count(9), model.count(9));
    }

    private void withThree(int state) {
        for (int a : VALUES) {
            for (int b : VALUES) {
                set(state);
                for (int c : VALUES) {
                    String values = a + ", " + b + ", " + c;
                    due("crossing " + values, real.crossing(a, b, c), model.crossing(a, b, c));
                    due("order " + values, real.order(a, b, c), model.order(a, b, c));
                    if (a != 0 || b < 7) {
                        due("bestOrder " + values, real.bestOrder(a, b, c), model.bestOrder(a, b, c));
                    }
                }
            }
        }
    }

    private void launches(int state) {
        for (int at = 0; at < 5; at++) {
            for (int value : VALUES) {
                set(state);
                int[] a = {20, 30, 10, 3, 30};
                a[at] = value;
                String values = a[0] + ", " + a[1] + ", " + a[2] + ", " + a[3] + ", " + a[4];
                due("launch " + values, real.launch(a[0], a[1], a[2], a[3], a[4]),
                    model.launch(a[0], a[1], a[2], a[3], a[4]));
                due("count 0", real.count(0), model.count(0));
            }
        }
    }
}
