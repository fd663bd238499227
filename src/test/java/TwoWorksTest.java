/** Promises 21 to 23: two works through the same benches. */
final class TwoWorksTest {
    private static final int BAD = WorkOrders.BAD, FULL = WorkOrders.FULL;

    public static void main(String[] args) {
        step();
        clear();
        walk();
        walkHoldsTheBench();
        walkOfShortSteps();
        longest();
        Due.end();
    }

    private static WorkOrders of(int[] first, int[] second) {
        WorkOrders x = new WorkOrders();
        for (int i = 0; i + 1 < first.length; i += 2) {
            x.step(0, first[i], first[i + 1]);
        }
        for (int i = 0; i + 1 < second.length; i += 2) {
            x.step(1, second[i], second[i + 1]);
        }
        return x;
    }

    private static int[] s(int... steps) {
        return steps;
    }

    private static void step() {
        WorkOrders x = new WorkOrders();
        for (int i = 1; i <= 6; i++) {
            Due.is("21: step of 1", x.step(1, i - 1, i == 1 ? 20 : 1), i);
            Due.is("21: count", x.count(3), i);
            Due.is("21: the other has none", x.count(2), 0);
            long before = x.digest();
            Due.refused("21: which", x, before, x.step(2, 0, 1), BAD);
            Due.refused("21: which", x, before, x.step(-1, 0, 1), BAD);
            Due.refused("21: bench", x, before, x.step(1, 6, 1), BAD);
            Due.refused("21: bench", x, before, x.step(1, -1, 1), BAD);
            Due.refused("21: minutes", x, before, x.step(1, 0, 0), BAD);
            Due.refused("21: minutes", x, before, x.step(1, 0, 21), BAD);
        }
        long before = x.digest();
        Due.refused("21: a seventh", x, before, x.step(1, 0, 1), FULL);
        Due.is("21: the other has room", x.step(0, 0, 1), 1);
    }

    private static void clear() {
        WorkOrders x = of(s(0, 1, 1, 1), s(2, 2));
        Due.is("22: how many", x.clear(), 3);
        Due.is("22: none", x.clear(), 0);
        Due.is("22: count", x.count(2), 0);
        Due.is("22: count", x.count(3), 0);
        Due.is("22: walk", x.walk(), 0);
        Due.is("22: from the first again", x.step(0, 5, 4), 1);
        Due.is("22: walk", x.walk(), 4);
    }

    private static void walk() {
        Due.is("23: one alone", of(s(0, 5, 0, 3), s()).walk(), 8);
        Due.is("23: the other alone", of(s(), s(4, 7)).walk(), 7);
        Due.is("23: other benches", of(s(0, 5), s(1, 7)).walk(), 7);
        Due.is("23: one bench", of(s(0, 5), s(0, 7)).walk(), 12);
        Due.is("23: crosswise", of(s(0, 5, 1, 3), s(1, 4, 0, 2)).walk(), 8);
        // 1 is on bench 1 till 6: 0 waits for it and is done at 9, or 1 waits.
        Due.is("23: crosswise with a wait", of(s(0, 5, 1, 3), s(1, 6, 0, 2)).walk(), 9);
        Due.is("23: between STEPS of one bench", of(s(0, 2, 0, 9), s(1, 2, 0, 3, 2, 6)).walk(), 14);
    }

    private static void walkHoldsTheBench() {
        // 1 needs bench 0 at 5, as 0 is within its STEP there till 10: it waits till then, or 0 waits till 7.
        Due.is("23: a STEP begun holds its bench", of(s(0, 10, 1, 10), s(2, 5, 0, 2, 2, 10)).walk(), 22);
        Due.is("23: both benches at once", of(s(0, 4, 1, 4), s(0, 4, 1, 4)).walk(), 12);
    }

    private static void walkOfShortSteps() {
        Due.is("23: both of a minute", of(s(0, 1), s(0, 1)).walk(), 2);
        // A STEP of one minute can't be slipped into another one's STEP that waits.
        Due.is("23: none within a STEP begun", of(s(0, 20, 1, 10), s(2, 10, 0, 1, 3, 20)).walk(), 41);
    }

    private static void longest() {
        int[] steps = s(3, 20, 3, 20, 3, 20, 3, 20, 3, 20, 3, 20);
        Due.is("23: the longest", of(steps, steps).walk(), 240);
        int[] others = s(4, 20, 4, 20, 4, 20, 4, 20, 4, 20, 4, 20);
        Due.is("23: at once", of(steps, others).walk(), 120);
    }
}
