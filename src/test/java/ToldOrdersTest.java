/** Promises 11 to 13: orders told and judged. */
final class ToldOrdersTest {
    private static final int BAD = WorkOrders.BAD;

    public static void main(String[] args) {
        next();
        anew();
        judgeOneBench();
        judgeRow();
        judgeRefuses();
        Due.end();
    }

    private static void tell(WorkOrders x, int... order) {
        x.anew();
        for (int work : order) {
            x.next(work);
        }
    }

    private static void next() {
        WorkOrders x = new WorkOrders();
        Due.is("11: without WORKS", x.next(0), BAD);
        for (int i = 0; i < 8; i++) {
            x.work(1);
        }
        for (int i = 0; i < 8; i++) {
            Due.is("11: next", x.next(7 - i), i + 1);
            Due.is("11: how many", x.count(1), i + 1);
            long before = x.digest();
            Due.refused("11: it is in it", x, before, x.next(7 - i), BAD);
            Due.refused("11: it is in it", x, before, x.next(7), BAD);
            Due.refused("11: no such work", x, before, x.next(8), BAD);
            Due.refused("11: no such work", x, before, x.next(-1), BAD);
            Due.refused("11: no such work", x, before, x.next(Integer.MAX_VALUE), BAD);
            // 32 further on is the same bit for a shift.
            Due.refused("11: no such work", x, before, x.next(32), BAD);
        }
    }

    private static void anew() {
        WorkOrders x = new WorkOrders();
        x.work(1);
        x.work(2);
        x.next(1);
        x.next(0);
        Due.is("12: how many", x.anew(), 2);
        Due.is("12: none", x.anew(), 0);
        Due.is("12: count", x.count(1), 0);
        Due.is("12: it may be told again", x.next(1), 1);
    }

    private static void judgeOneBench() {
        WorkOrders x = new WorkOrders();
        x.work(5);
        x.work(2);
        x.put(0, 1, 3);
        x.put(0, 2, 7);
        x.put(1, 2, 4);
        x.put(0, 3, 4);
        x.put(1, 3, 3);
        x.put(1, 4, 2);
        x.change(2, 0, 6);
        x.change(0, 2, 1);
        tell(x, 1, 0);
        // 1 till 2, CHANGE till 8, 0 till 13.
        int[] behind = {13, 3 * 2 + 4 * 13, 4 * 6, 6, 4, 7 + 1};
        for (int aim = 0; aim <= 5; aim++) {
            Due.is("13: judge(" + aim + ") of 1 0", x.judge(aim), behind[aim]);
        }
        tell(x, 0, 1);
        // 0 from 3 till 8, CHANGE till 9, 1 till 11.
        int[] first = {11, 4 * 8 + 3 * 11, 4 + 3 * 7, 7, 7, 5 + 2 + 1};
        for (int aim = 0; aim <= 5; aim++) {
            Due.is("13: judge(" + aim + ") of 0 1", x.judge(aim), first[aim]);
        }
    }

    private static void judgeRow() {
        WorkOrders x = new WorkOrders();
        for (int i = 0; i < 3; i++) {
            x.work(1);
            x.needs(i, 1, 10);
        }
        tell(x, 2, 1, 0);
        Due.is("13: ways of 9", x.judge(5), 31);
        x.benches(3);
        Due.is("13: three benches", x.judge(5), 32);
        x.needs(0, 0, 20);
        // 2 at 1, 1 at 2, 0 at 22; bench 1: 11, 21, 32; bench 2: 33.
        Due.is("13: a long one last", x.judge(5), 33);
        x.way(1, 0);
        // 1 holds bench 0 till 11, so 0 is done there at 31, then till 41, 42.
        Due.is("13: a way of 0", x.judge(5), 42);
        x.way(1, 1);
        Due.is("13: a way of 1", x.judge(5), 33);
    }

    private static void judgeRefuses() {
        WorkOrders x = new WorkOrders();
        x.work(1);
        x.work(1);
        tell(x, 1);
        long before = x.digest();
        for (int aim = 0; aim <= 5; aim++) {
            Due.refused("13: not all are in it", x, before, x.judge(aim), -20);
        }
        Due.refused("13: aim", x, before, x.judge(6), -10);
        Due.refused("13: aim", x, before, x.judge(-1), -10);
        tell(x, 1, 0);
        x.ahead(0, 1, true);
        for (int aim = 0; aim < 5; aim++) {
            Due.is("13: one is ahead of what must be ahead", x.judge(aim), -20);
        }
        Due.is("13: a row does not look at AHEAD", x.judge(5), 3);
        tell(x, 0, 1);
        Due.is("13: as it must be", x.judge(0), 2);
        x.work(1);
        Due.is("13: a new WORK is not in it", x.judge(0), -20);
        Due.is("13: a new WORK is not in it", x.judge(5), -20);
        x.next(2);
        Due.is("13: now it is", x.judge(0), 3);
    }
}
