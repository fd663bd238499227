/** Promises 29 and 30: count and digest. */
final class CountsTest {
    private static final int BAD = WorkOrders.BAD;

    public static void main(String[] args) {
        count();
        digestOfNew();
        digestOfAll();
        digestTellsApart();
        questionsChangeNothing();
        Due.end();
    }

    private static long h(int... values) {
        long h = 401;
        for (int v : values) {
            h = 31 * h + v;
        }
        return h;
    }

    private static void count() {
        WorkOrders x = new WorkOrders();
        for (int i = 0; i < 5; i++) x.work(1);
        for (int i = 0; i < 4; i++) x.next(i);
        for (int i = 0; i < 3; i++) x.step(0, 0, 1);
        for (int i = 0; i < 2; i++) x.step(1, 0, 1);
        x.leaf(-1);
        for (int what = 0; what < 5; what++) {
            Due.is("29: count(" + what + ")", x.count(what), 5 - what);
        }
        long before = x.digest();
        for (int bad : new int[] {-1, 5, Integer.MIN_VALUE, Integer.MAX_VALUE}) {
            Due.refused("29: count(" + bad + ")", x, before, x.count(bad), BAD);
        }
    }

    private static void digestOfNew() {
        Due.is("30: a new object", new WorkOrders().digest(),
                h(0, 0, 0, 0, 0, 0, 0, 0, 0, 0, 0, 0, 0, 0, 2, 9, 9, 9, 2));
    }

    private static void digestOfAll() {
        WorkOrders x = new WorkOrders();
        x.work(7);
        x.work(8);
        x.put(0, 1, 11);
        x.put(0, 2, 12);
        x.put(0, 3, 13);
        x.put(0, 4, 2);
        x.ahead(1, 0, true);
        x.needs(1, 0, 21);
        x.needs(1, 1, 22);
        x.needs(1, 2, 23);
        x.needs(1, 3, 24);
        x.change(0, 1, 1);
        x.change(0, 2, 2);
        x.change(1, 0, 3);
        x.change(1, 2, 4);
        x.change(2, 0, 5);
        x.change(2, 1, 6);
        x.next(1);
        x.benches(3);
        x.way(1, 4);
        x.way(2, 5);
        x.way(3, 6);
        x.step(1, 5, 20);
        x.step(0, 4, 19);
        x.step(0, 3, 18);
        x.leaf(-1);
        x.leaf(0);
        x.likes(4);
        Due.is("30: all of it", x.digest(), h(
                2, 1, 2, 1, 2,
                7, 11, 12, 13, 2, 2, 7, 1, 1, 1,
                8, 0, 300, 1, 0, 0, 21, 22, 23, 24,
                0, 1, 2, 3, 0, 4, 5, 6, 0,
                1,
                3, 4, 5, 6,
                4, 19, 3, 18, 5, 20,
                -1, 0,
                4));
    }

    private static void digestTellsApart() {
        WorkOrders x = new WorkOrders();
        WorkOrders y = new WorkOrders();
        x.work(3);
        Due.holds("30: objects share nothing", x.digest() != y.digest());
        y.work(3);
        Due.is("30: the same calls, the same digest", x.digest(), y.digest());
    }

    private static void questionsChangeNothing() {
        WorkOrders x = new WorkOrders();
        for (int i = 0; i < 6; i++) {
            x.work(3 + i);
            x.next(5 - i);
            x.step(i % 2, i, 3);
            x.leaf(i - 1);
        }
        long before = x.digest();
        for (int round = 0; round < 2; round++) {
            for (int aim = 0; aim < 6; aim++) {
                x.best(aim, -1);
                x.judge(aim);
                x.count(aim);
            }
            x.lastFirst(-1);
            x.onTime();
            x.broken(0);
            x.minute(5);
            x.byRule(-1);
            x.bestRow(-1);
            x.bound();
            x.any();
            x.walk();
            x.levels(-1);
            x.least(0);
            x.least(1);
            Due.is("30: questions change nothing", x.digest(), before);
        }
    }
}
