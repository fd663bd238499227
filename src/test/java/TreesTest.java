/** Promises 24 to 28: short works that hang on each other as a tree. */
final class TreesTest {
    private static final int NONE = WorkOrders.NONE, BAD = WorkOrders.BAD, FULL = WorkOrders.FULL;

    public static void main(String[] args) {
        leaf();
        fell();
        likes();
        levels();
        least();
        notSooner();
        Due.end();
    }

    private static WorkOrders of(int... on) {
        WorkOrders x = new WorkOrders();
        for (int other : on) {
            x.leaf(other);
        }
        return x;
    }

    private static void minutes(WorkOrders x, int all, int... each) {
        Due.is("27: levels(NONE)", x.levels(NONE), all);
        for (int i = 0; i < each.length; i++) {
            Due.is("27: levels(" + i + ")", x.levels(i), each[i]);
        }
    }

    private static void leaf() {
        WorkOrders x = new WorkOrders();
        Due.is("24: on itself", x.leaf(0), BAD);
        for (int i = 0; i < 12; i++) {
            Due.is("24: leaf", x.leaf(i - 1), i);
            long before = x.digest();
            Due.refused("24: on one not told", x, before, x.leaf(i + 1), BAD);
            Due.refused("24: below NONE", x, before, x.leaf(-2), BAD);
            Due.refused("24: far away", x, before, x.leaf(Integer.MAX_VALUE), BAD);
        }
        long before = x.digest();
        Due.refused("24: a thirteenth", x, before, x.leaf(NONE), FULL);
        Due.refused("24: a thirteenth", x, before, x.leaf(11), FULL);
        Due.refused("24: BAD first", x, before, x.leaf(12), BAD);
        minutes(x, 12, 11, 10, 9, 8, 7, 6, 5, 4, 3, 2, 1, 0);
    }

    private static void fell() {
        WorkOrders x = of(NONE, 0, 1);
        x.likes(3);
        Due.is("25: how many", x.fell(), 3);
        Due.is("25: none", x.fell(), 0);
        Due.is("25: count", x.count(4), 0);
        Due.is("25: levels", x.levels(NONE), 0);
        Due.is("25: no short WORK", x.levels(0), -10);
        Due.is("25: LIKE BENCHES stay", x.likes(3), 3);
        Due.is("25: nothing to hang on", x.leaf(0), BAD);
        Due.is("25: from the first again", x.leaf(NONE), 0);
    }

    private static void likes() {
        WorkOrders x = of(NONE, NONE, NONE, NONE, NONE);
        Due.is("26: 2 at first", x.likes(1), 2);
        Due.is("26: one", x.levels(NONE), 5);
        Due.is("26: what they were", x.likes(4), 1);
        Due.is("26: four", x.levels(NONE), 2);
        long before = x.digest();
        for (int bad : new int[] {0, -1, 5, Integer.MIN_VALUE}) {
            Due.refused("26: likes(" + bad + ")", x, before, x.likes(bad), BAD);
        }
        Due.is("26: what they were", x.likes(2), 4);
    }

    private static void levels() {
        WorkOrders x = of(NONE, NONE, 0, 0, 1, 4, NONE);
        // LEVELS 1 1 2 2 2 3 1; free at first: 2, 3, 5, 6: 5, then 2 by its number.
        // Then 3, 4, 6 are free: 3, 4; then 0, 1; then 6.
        minutes(x, 4, 2, 2, 0, 1, 1, 0, 3);
        x.likes(3);
        // 5, 2, 3; then 4 by its LEVEL, 0 by its number, 6; 1 last.
        minutes(x, 3, 1, 2, 0, 0, 1, 0, 1);
        long before = x.digest();
        Due.refused("27: what", x, before, x.levels(7), -10);
        Due.refused("27: what", x, before, x.levels(-2), -10);
    }

    private static void least() {
        WorkOrders x = of(NONE, 0, 0, 0, 0, 0, 0, 0, 0, 0, 0, 0);
        int[] due = {12, 7, 5, 4};
        for (int n = 1; n <= 4; n++) {
            x.likes(n);
            Due.is("28: a star on " + n, x.least(0), due[n - 1]);
        }
        x = of(NONE, 0, 1, 2, NONE, NONE, NONE, NONE);
        Due.is("28: a chain and four alone", x.least(0), 4);
        x.likes(1);
        Due.is("28: on one bench", x.least(0), 8);
        long before = x.digest();
        Due.refused("28: what", x, before, x.least(2), BAD);
        Due.refused("28: what", x, before, x.least(-1), BAD);
    }

    private static void notSooner() {
        WorkOrders x = of(NONE, 0, 0, 0, 0, 0, 0, 0, 0, 0, 0, 0);
        // 1 and 11 by benches, cut up.
        int[] due = {12, 7, 5, 4};
        for (int n = 1; n <= 4; n++) {
            x.likes(n);
            Due.is("28: a star on " + n, x.least(1), due[n - 1]);
        }
        x = of(NONE, 0, 1, 2, NONE);
        Due.is("28: a chain", x.least(1), 4);
        x.leaf(2);
        x.leaf(2);
        // LEVEL 4 has 3 now: 3 and 2.
        Due.is("28: a chain with a tuft", x.least(1), 5);
        x.likes(3);
        Due.is("28: on three", x.least(1), 4);
    }
}
