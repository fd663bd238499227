import java.util.function.ToLongFunction;

/**
 * Every call with all kinds of numbers, on objects that are new, begun and full: none throws, each
 * answers as the plain model does, and what is refused changes nothing.
 */
final class EveryNumberTest {
    private static final int MIN = Integer.MIN_VALUE, MAX = Integer.MAX_VALUE;
    private static final int[] ALL = {MIN, MIN + 1, MIN + 8, -65536, -1000, -257, -256, -255, -40, -33, -32, -31, -20,
        -12, -11, -10, -9, -8, -5, -4, -3, -2, -1, 0, 1, 2, 3, 4, 5, 6, 7, 8, 9, 10, 11, 12, 13, 19, 20, 21, 31, 32, 33,
        39, 40, 41, 63, 64, 98, 99, 100, 255, 256, 257, 299, 300, 301, 418, 419, 998, 999, 1000, 1001, 65535, 65536,
        65537, 1 << 30, MAX - 8, MAX - 1, MAX};
    private static final int[] FEW = {-1, 0, 1, 2, 3, 4, 5, 7, 8};
    /** An object is used for 512 calls: two for each that is looked at, and some that make it. */
    private static final int CALLS_OF_ONE = 150;

    private interface Call {
        long of(WorkOrders x, int a, int b, int c);
    }

    private interface ModelCall {
        long of(Model m, int a, int b, int c);
    }

    private static int state;
    private static int calls;
    private static WorkOrders x;
    private static Model m;

    public static void main(String[] args) {
        for (state = 0; state < 3; state++) {
            begin();
            tellings();
            questions();
            dearQuestions();
        }
        Due.end();
    }

    private static void begin() {
        calls = 0;
        x = new WorkOrders();
        m = new Model();
        int works = state == 0 ? 0 : state == 1 ? 3 : 8;
        for (int i = 0; i < works; i++) {
            both(x.work(5 * i + 1), m.work(5 * i + 1));
            both(x.put(i, 1, 9 * i), m.put(i, 1, 9 * i));
            both(x.put(i, 2, 60 - 7 * i), m.put(i, 2, 60 - 7 * i));
            both(x.put(i, 4, i % 3), m.put(i, 4, i % 3));
            both(x.ahead(i, i - 1, true), m.ahead(i, i - 1, true));
            both(x.next(i), m.next(i));
        }
        for (int i = 0; i < 6 * state; i++) {
            both(x.leaf(i - 1 - i % 2), m.leaf(i - 1 - i % 2));
            both(x.step(i % 2, i % 5, 1 + i), m.step(i % 2, i % 5, 1 + i));
        }
        both(x.change(0, 1, 4 * state), m.change(0, 1, 4 * state));
    }

    private static void both(long got, long want) {
        Due.is("a call that makes state " + state, got, want);
    }

    private static void look(String name, Call call, ModelCall model, int a, int b, int c) {
        calls++;
        if (calls > CALLS_OF_ONE) {
            begin();
        }
        String told = name + "(" + a + ", " + b + ", " + c + ") in state " + state;
        Due.is(told, call.of(x, a, b, c), model.of(m, a, b, c));
        Due.is(told + ", then digest()", x.digest(), m.digest());
    }

    private static void three(String name, Call call, ModelCall model) {
        for (int p : FEW) {
            for (int q : FEW) {
                for (int v : ALL) {
                    look(name, call, model, v, p, q);
                    look(name, call, model, p, v, q);
                    look(name, call, model, p, q, v);
                }
            }
        }
    }

    private static void two(String name, Call call, ModelCall model) {
        for (int v : ALL) {
            for (int w : ALL) {
                look(name, call, model, v, w, 0);
            }
        }
    }

    private static void one(String name, Call call, ModelCall model) {
        for (int v : ALL) {
            look(name, call, model, v, 0, 0);
        }
    }

    private static void tellings() {
        one("work", (y, a, b, c) -> y.work(a), (n, a, b, c) -> n.work(a));
        three("put", (y, a, b, c) -> y.put(a, b, c), (n, a, b, c) -> n.put(a, b, c));
        two("ahead, so", (y, a, b, c) -> y.ahead(a, b, true), (n, a, b, c) -> n.ahead(a, b, true));
        two("ahead, not so", (y, a, b, c) -> y.ahead(a, b, false), (n, a, b, c) -> n.ahead(a, b, false));
        three("change", (y, a, b, c) -> y.change(a, b, c), (n, a, b, c) -> n.change(a, b, c));
        one("next", (y, a, b, c) -> y.next(a), (n, a, b, c) -> n.next(a));
        one("anew", (y, a, b, c) -> y.anew(), (n, a, b, c) -> n.anew());
        one("next behind anew", (y, a, b, c) -> y.next(a), (n, a, b, c) -> n.next(a));
        one("benches", (y, a, b, c) -> y.benches(a), (n, a, b, c) -> n.benches(a));
        three("needs", (y, a, b, c) -> y.needs(a, b, c), (n, a, b, c) -> n.needs(a, b, c));
        two("way", (y, a, b, c) -> y.way(a, b), (n, a, b, c) -> n.way(a, b));
        three("step", (y, a, b, c) -> y.step(a, b, c), (n, a, b, c) -> n.step(a, b, c));
        one("clear", (y, a, b, c) -> y.clear(), (n, a, b, c) -> n.clear());
        three("step behind clear", (y, a, b, c) -> y.step(a, b, c), (n, a, b, c) -> n.step(a, b, c));
        one("leaf", (y, a, b, c) -> y.leaf(a), (n, a, b, c) -> n.leaf(a));
        one("fell", (y, a, b, c) -> y.fell(), (n, a, b, c) -> n.fell());
        one("leaf behind fell", (y, a, b, c) -> y.leaf(a), (n, a, b, c) -> n.leaf(a));
        one("likes", (y, a, b, c) -> y.likes(a), (n, a, b, c) -> n.likes(a));
    }

    private static void questions() {
        begin();
        one("lastFirst", (y, a, b, c) -> y.lastFirst(a), (n, a, b, c) -> n.lastFirst(a));
        one("broken", (y, a, b, c) -> y.broken(a), (n, a, b, c) -> n.broken(a));
        one("minute", (y, a, b, c) -> y.minute(a), (n, a, b, c) -> n.minute(a));
        one("judge", (y, a, b, c) -> y.judge(a), (n, a, b, c) -> n.judge(a));
        one("byRule", (y, a, b, c) -> y.byRule(a), (n, a, b, c) -> n.byRule(a));
        one("levels", (y, a, b, c) -> y.levels(a), (n, a, b, c) -> n.levels(a));
        one("least", (y, a, b, c) -> y.least(a), (n, a, b, c) -> n.least(a));
        one("count", (y, a, b, c) -> y.count(a), (n, a, b, c) -> n.count(a));
        look("onTime", (y, a, b, c) -> y.onTime(), (n, a, b, c) -> n.onTime(), 0, 0, 0);
        look("bound", (y, a, b, c) -> y.bound(), (n, a, b, c) -> n.bound(), 0, 0, 0);
        look("any", (y, a, b, c) -> y.any(), (n, a, b, c) -> n.any(), 0, 0, 0);
        look("walk", (y, a, b, c) -> y.walk(), (n, a, b, c) -> n.walk(), 0, 0, 0);
    }

    /** The model goes over all ORDERS: once for each is enough, as AgainstModelTest has more of them. */
    private static void dearQuestions() {
        begin();
        long[] makes = new long[5];
        for (int aim = 0; aim < 5; aim++) {
            makes[aim] = m.best(aim, -1);
        }
        ToLongFunction<int[]> best = a -> isOut(a[0], 0, 4) || isOut(a[1], -1, m.works.size() - 1) ? -10
                : a[1] == -1 ? makes[a[0]] : x.best(a[0], a[1]);
        two("best", (y, a, b, c) -> y.best(a, b), (n, a, b, c) -> best.applyAsLong(new int[] {a, b}));
        long end = m.bestRow(-1);
        ToLongFunction<int[]> row = a -> isOut(a[0], -1, m.works.size() - 1) ? -10
                : a[0] == -1 ? end : x.bestRow(a[0]);
        one("bestRow", (y, a, b, c) -> y.bestRow(a), (n, a, b, c) -> row.applyAsLong(new int[] {a}));
    }

    private static boolean isOut(int v, int least, int most) {
        return v < least || v > most;
    }
}
