/** Promises 14 to 20: benches in a row. */
final class RowsTest {
    private static final int NONE = WorkOrders.NONE, BAD = WorkOrders.BAD;

    public static void main(String[] args) {
        benches();
        needs();
        way();
        byRule();
        byRuleOfLikeOnes();
        bestRow();
        bestRowWithWays();
        bestRowRefuses();
        bound();
        any();
        Due.end();
    }

    /** A WORK for each row of needs. */
    private static WorkOrders of(int[]... needs) {
        WorkOrders x = new WorkOrders();
        for (int[] row : needs) {
            int work = x.work(1);
            for (int bench = 0; bench < row.length; bench++) {
                x.needs(work, bench, row[bench]);
            }
        }
        return x;
    }

    private static int[] n(int... needs) {
        return needs;
    }

    private static void rule(WorkOrders x, int end, int... order) {
        Due.is("17: byRule(NONE)", x.byRule(NONE), end);
        for (int i = 0; i < order.length; i++) {
            Due.is("17: byRule(" + i + ")", x.byRule(i), order[i]);
        }
    }

    private static void row(WorkOrders x, int end, int... order) {
        Due.is("18: bestRow(NONE)", x.bestRow(NONE), end);
        for (int i = 0; i < order.length; i++) {
            Due.is("18: bestRow(" + i + ")", x.bestRow(i), order[i]);
        }
    }

    private static void benches() {
        WorkOrders x = new WorkOrders();
        Due.is("14: 2 at first", x.benches(4), 2);
        Due.is("14: what they were", x.benches(3), 4);
        long before = x.digest();
        for (int bad : new int[] {1, 0, 5, Integer.MIN_VALUE, Integer.MAX_VALUE}) {
            Due.refused("14: benches(" + bad + ")", x, before, x.benches(bad), BAD);
        }
        Due.is("14: what they were", x.benches(2), 3);
    }

    private static void needs() {
        WorkOrders x = new WorkOrders();
        Due.is("15: without WORKS", x.needs(0, 0, 1), BAD);
        x.work(17);
        x.work(4);
        Due.is("15: LONG at first on bench 0", x.needs(0, 0, 40), 17);
        Due.is("15: what it was", x.needs(0, 0, 1), 40);
        for (int bench = 1; bench < 4; bench++) {
            Due.is("15: 1 at first on others", x.needs(0, bench, 40), 1);
            Due.is("15: what it was", x.needs(0, bench, 39), 40);
        }
        Due.is("15: the other one's are its own", x.needs(1, 0, 4), 4);
        long before = x.digest();
        Due.refused("15: work", x, before, x.needs(2, 0, 1), BAD);
        Due.refused("15: work", x, before, x.needs(-1, 0, 1), BAD);
        Due.refused("15: bench", x, before, x.needs(0, 4, 1), BAD);
        Due.refused("15: bench", x, before, x.needs(0, -1, 1), BAD);
        Due.refused("15: v", x, before, x.needs(0, 0, 0), BAD);
        Due.refused("15: v", x, before, x.needs(0, 0, 41), BAD);
    }

    private static void way() {
        WorkOrders x = new WorkOrders();
        for (int bench = 1; bench < 4; bench++) {
            Due.is("16: 9 at first", x.way(bench, 0), 9);
            Due.is("16: what it was", x.way(bench, bench), 0);
            Due.is("16: what it was", x.way(bench, 9), bench);
        }
        long before = x.digest();
        Due.refused("16: bench", x, before, x.way(0, 1), BAD);
        Due.refused("16: bench", x, before, x.way(4, 1), BAD);
        Due.refused("16: v", x, before, x.way(1, -1), BAD);
        Due.refused("16: v", x, before, x.way(1, 10), BAD);
    }

    private static void byRule() {
        WorkOrders x = of(n(4, 5), n(4, 1), n(30, 4), n(6, 30), n(2, 3));
        // Shorter on bench 0: 4, 0, 3; the others by bench 1 falling: 2, 1.
        // 2 till 5; 6 till 11; 12 till 42; 42 till 46; 46 till 47.
        rule(x, 47, 4, 0, 3, 2, 1);
        x.benches(4);
        x.way(1, 0);
        rule(x, 47, 4, 0, 3, 2, 1);
        long before = x.digest();
        Due.refused("17: what", x, before, x.byRule(5), -10);
        Due.refused("17: what", x, before, x.byRule(-2), -10);
        Due.is("17: without WORKS", new WorkOrders().byRule(0), -10);
    }

    private static void byRuleOfLikeOnes() {
        rule(of(n(3, 3), n(2, 5), n(2, 4), n(9, 3)), 19, 1, 2, 0, 3);
        // Alike on both benches is not shorter: it is of the others.
        rule(of(n(5, 5), n(4, 5)), 14, 1, 0);
        rule(of(n(3, 3), n(3, 3), n(3, 3)), 12, 0, 1, 2);
    }

    private static void bestRow() {
        WorkOrders x = of(n(5, 1), n(1, 5));
        row(x, 7, 1, 0);
        x.ahead(0, 1, true);
        x.put(1, 1, 99);
        x.put(0, 4, 1);
        x.change(0, 1, 20);
        row(x, 7, 1, 0);
        row(of(n(2, 2), n(2, 2), n(2, 2)), 8, 0, 1, 2);
        // Bench 2 is looked at only with three benches.
        x = of(n(1, 5, 1), n(5, 1, 20));
        row(x, 7, 0, 1);
        x.benches(3);
        // 0 1: 1, 6, 7; 6, 7, 27. 1 0: 5, 6, 26; 6, 11, 27: alike, so the first as a row.
        row(x, 27, 0, 1);
        x.needs(0, 0, 2);
        row(x, 27, 1, 0);
        x.benches(4);
        row(x, 28, 1, 0);
    }

    private static void bestRowWithWays() {
        // With a way of 9 the rule's 0 1 2 is best: 1, 2, 3 / 11, 12, 13.
        WorkOrders x = of(n(1, 10), n(1, 1), n(9, 1));
        row(x, 13, 0, 1, 2);
        x.way(1, 0);
        // 0 1 2: 1 leaves bench 0 at 11, 2 is done at 20, 21. 0 2 1: 2 done at 10, leaves at 11; 1 at 12, 13.
        row(x, 13, 0, 2, 1);
        x = of(n(1, 9), n(1, 9), n(1, 9), n(27, 1));
        x.way(1, 1);
        // As 1 begins on bench 1 at 10, 2 goes to the way and 3 begins at 10: 37, 38.
        x.next(0);
        x.next(1);
        x.next(2);
        x.next(3);
        Due.is("18: a way of 1", x.judge(5), 38);
        x.way(1, 2);
        Due.is("18: a way of 2", x.judge(5), 31);
        x.way(1, 0);
        Due.is("18: a way of 0", x.judge(5), 47);
        // Wherever 3 stands, it is alone for 20 minutes: 0 3 1 2 ends at 47 too.
        row(x, 47, 0, 1, 2, 3);
    }

    private static void bestRowRefuses() {
        WorkOrders x = of(n(1, 1), n(1, 1));
        long before = x.digest();
        Due.refused("18: what", x, before, x.bestRow(2), -10);
        Due.refused("18: what", x, before, x.bestRow(-2), -10);
        Due.is("18: without WORKS", new WorkOrders().bestRow(0), -10);
        Due.is("18: without WORKS", new WorkOrders().bestRow(NONE), 0);
    }

    private static void bound() {
        WorkOrders x = of(n(5, 2, 7, 1), n(3, 9, 4, 6));
        // Bench 0: 8 + 2; bench 1: 11 + 3.
        Due.is("19: two benches", x.bound(), 14);
        x.benches(3);
        // Bench 0: 8 + 9; bench 1: 11 + 3 + 4; bench 2: 11 + 7.
        Due.is("19: three benches", x.bound(), 18);
        x.benches(4);
        // 8 + 10; 11 + 3 + 8; 11 + 7 + 1; 7 + 14.
        Due.is("19: four benches", x.bound(), 22);
        x.way(1, 0);
        Due.is("19: ways are not looked at", x.bound(), 22);
        Due.is("19: one WORK", of(n(40, 40)).bound(), 80);
    }

    private static void any() {
        WorkOrders x = of(n(5, 2), n(3, 9));
        Due.is("20: of both of one WORK", x.any(), 12);
        x.work(6);
        Due.is("20: all times on bench 0", x.any(), 14);
        x.needs(2, 1, 4);
        Due.is("20: all times on bench 1", x.any(), 15);
        x.benches(4);
        x.needs(2, 2, 40);
        Due.is("20: other benches are not looked at", x.any(), 15);
    }
}
