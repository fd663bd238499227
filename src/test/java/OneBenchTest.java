/** Promises 1 to 10: a new object and one bench. */
final class OneBenchTest {
    private static final int NONE = WorkOrders.NONE, BAD = WorkOrders.BAD, NO = WorkOrders.NO, FULL = WorkOrders.FULL;
    private static final int LONG = 0, COMES = 1, DUE = 2, WEIGHT = 3, TOOL = 4;

    public static void main(String[] args) {
        newObject();
        work();
        put();
        putLeavesNeeds();
        ahead();
        aheadNoMore();
        change();
        bestByAims();
        bestWithComesAndChanges();
        bestOfLikeOnes();
        bestRefuses();
        lastFirst();
        lastFirstOfLikeOnes();
        onTime();
        onTimeOfLikeOnes();
        broken();
        brokenWhy();
        minute();
        eightWorks();
        Due.end();
    }

    private static WorkOrders of(int... lengths) {
        WorkOrders x = new WorkOrders();
        for (int length : lengths) {
            x.work(length);
        }
        return x;
    }

    private static void all(WorkOrders x, int what, int... values) {
        for (int i = 0; i < values.length; i++) {
            x.put(i, what, values[i]);
        }
    }

    private static void best(WorkOrders x, int aim, int makes, int... order) {
        Due.is("best(" + aim + ", NONE)", x.best(aim, NONE), makes);
        for (int i = 0; i < order.length; i++) {
            Due.is("best(" + aim + ", " + i + ")", x.best(aim, i), order[i]);
        }
    }

    private static void newObject() {
        WorkOrders x = new WorkOrders();
        for (int what = 0; what < 5; what++) {
            Due.is("1: count(" + what + ")", x.count(what), 0);
        }
        for (int aim = 0; aim < 5; aim++) {
            Due.is("1: best", x.best(aim, NONE), 0);
            Due.is("1: judge", x.judge(aim), 0);
        }
        Due.is("1: judge(5)", x.judge(5), 0);
        Due.is("1: lastFirst", x.lastFirst(NONE), 0);
        Due.is("1: onTime", x.onTime(), 0);
        Due.is("1: broken(0)", x.broken(0), 0);
        Due.is("1: broken(1)", x.broken(1), NONE);
        Due.is("1: broken(2)", x.broken(2), NONE);
        Due.is("1: minute(0)", x.minute(0), NONE);
        Due.is("1: byRule", x.byRule(NONE), 0);
        Due.is("1: bestRow", x.bestRow(NONE), 0);
        Due.is("1: bound", x.bound(), 0);
        Due.is("1: any", x.any(), 0);
        Due.is("1: walk", x.walk(), 0);
        Due.is("1: levels", x.levels(NONE), 0);
        Due.is("1: least(0)", x.least(0), 0);
        Due.is("1: least(1)", x.least(1), 0);
        Due.is("1: benches", x.benches(2), 2);
        Due.is("1: likes", x.likes(2), 2);
        for (int bench = 1; bench < 4; bench++) {
            Due.is("1: way", x.way(bench, 9), 9);
        }
        for (int from = 0; from < 3; from++) {
            for (int to = 0; to < 3; to++) {
                Due.is("1: change", x.change(from, to, 0), from == to ? BAD : 0);
            }
        }
        Due.is("1: anew", x.anew(), 0);
        Due.is("1: clear", x.clear(), 0);
        Due.is("1: fell", x.fell(), 0);
    }

    private static void work() {
        WorkOrders x = new WorkOrders();
        long before = x.digest();
        for (int bad : new int[] {0, -1, 41, Integer.MIN_VALUE, Integer.MAX_VALUE}) {
            Due.refused("2: work(" + bad + ")", x, before, x.work(bad), BAD);
        }
        for (int i = 0; i < 8; i++) {
            Due.is("2: work", x.work(i % 2 == 0 ? 1 : 40), i);
        }
        before = x.digest();
        Due.refused("2: a ninth work", x, before, x.work(1), FULL);
        Due.refused("2: a ninth work, BAD first", x, before, x.work(41), BAD);
    }

    private static void put() {
        WorkOrders x = of(7, 9);
        int[] first = {9, 0, 300, 1, 0};
        int[] least = {1, 0, 0, 0, 0};
        int[] most = {40, 99, 300, 20, 2};
        for (int what = 0; what < 5; what++) {
            Due.is("3: put least of " + what, x.put(1, what, least[what]), first[what]);
            Due.is("3: put most of " + what, x.put(1, what, most[what]), least[what]);
            long before = x.digest();
            Due.refused("3: below of " + what, x, before, x.put(1, what, least[what] - 1), BAD);
            Due.refused("3: above of " + what, x, before, x.put(1, what, most[what] + 1), BAD);
            Due.refused("3: no such work", x, before, x.put(2, what, least[what]), BAD);
            Due.refused("3: no such work", x, before, x.put(-1, what, least[what]), BAD);
            Due.is("3: put it again of " + what, x.put(1, what, most[what]), most[what]);
        }
        long before = x.digest();
        for (int bad : new int[] {-1, 5, Integer.MIN_VALUE, Integer.MAX_VALUE}) {
            Due.refused("3: what " + bad, x, before, x.put(0, bad, 1), BAD);
        }
        Due.is("3: the other WORK is as it was", x.put(0, LONG, 7), 7);
    }

    private static void putLeavesNeeds() {
        WorkOrders x = of(7);
        x.put(0, LONG, 20);
        Due.is("3: needs stay as LONG was", x.needs(0, 0, 7), 7);
        x.needs(0, 0, 30);
        Due.is("3: LONG stays as needs change", x.put(0, LONG, 20), 20);
    }

    private static void ahead() {
        WorkOrders x = of(1, 1, 1, 1);
        long before = x.digest();
        Due.refused("4: alike", x, before, x.ahead(1, 1, true), BAD);
        Due.refused("4: alike", x, before, x.ahead(1, 1, false), BAD);
        Due.refused("4: no such work", x, before, x.ahead(4, 0, true), BAD);
        Due.refused("4: no such work", x, before, x.ahead(0, -1, true), BAD);
        Due.refused("4: no such work, alike", x, before, x.ahead(4, 4, false), BAD);
        Due.refused("4: it is not so", x, before, x.ahead(0, 1, false), NO);
        Due.is("4: 3 ahead of 2", x.ahead(3, 2, true), 1);
        Due.is("4: 2 ahead of 0", x.ahead(2, 0, true), 1);
        before = x.digest();
        Due.refused("4: it is so", x, before, x.ahead(3, 2, true), NO);
        Due.refused("4: round about", x, before, x.ahead(2, 3, true), NO);
        Due.refused("4: round about by others", x, before, x.ahead(0, 3, true), NO);
        best(x, 0, 4, 1, 3, 2, 0);
        Due.is("4: told though it is so by others", x.ahead(3, 0, true), 1);
        Due.is("4: 0 ahead of 1", x.ahead(0, 1, true), 1);
        before = x.digest();
        Due.refused("4: round about by two others", x, before, x.ahead(1, 3, true), NO);
        best(x, 0, 4, 3, 2, 0, 1);
    }

    private static void aheadNoMore() {
        WorkOrders x = of(1, 1, 1);
        x.ahead(2, 1, true);
        x.ahead(1, 0, true);
        long before = x.digest();
        Due.refused("4: by others alone it can not be no more", x, before, x.ahead(2, 0, false), NO);
        Due.refused("4: the other way it is not so", x, before, x.ahead(1, 2, false), NO);
        Due.is("4: no more", x.ahead(2, 1, false), 1);
        before = x.digest();
        Due.refused("4: no more twice", x, before, x.ahead(2, 1, false), NO);
        best(x, 0, 3, 1, 0, 2);
        Due.is("4: now 0 may be ahead of 2", x.ahead(0, 2, true), 1);
    }

    private static void change() {
        WorkOrders x = of(1, 1);
        Due.is("5: change", x.change(0, 2, 20), 0);
        Due.is("5: what it was", x.change(0, 2, 3), 20);
        Due.is("5: the way back is another one", x.change(2, 0, 5), 0);
        long before = x.digest();
        for (int tool = 0; tool < 3; tool++) {
            Due.refused("5: alike", x, before, x.change(tool, tool, 1), BAD);
        }
        Due.refused("5: from", x, before, x.change(3, 0, 1), BAD);
        Due.refused("5: from", x, before, x.change(-1, 0, 1), BAD);
        Due.refused("5: to", x, before, x.change(0, 3, 1), BAD);
        Due.refused("5: to", x, before, x.change(0, -1, 1), BAD);
        Due.refused("5: v", x, before, x.change(0, 1, 21), BAD);
        Due.refused("5: v", x, before, x.change(0, 1, -1), BAD);
        all(x, TOOL, 0, 2);
        best(x, 0, 5, 0, 1);
        x.change(0, 2, 6);
        best(x, 0, 7, 1, 0);
    }

    private static void bestByAims() {
        WorkOrders x = of(5, 2, 4);
        all(x, DUE, 5, 6, 7);
        all(x, WEIGHT, 1, 2, 3);
        best(x, 0, 11, 0, 1, 2);
        // 2/2, 3/4 and 1/5 by weight and length: 1 at 2, 2 at 6, 0 at 11.
        best(x, 1, 2 * 2 + 3 * 6 + 11, 1, 2, 0);
        // 1 at 2, 2 at 6, 0 at 11: 6 late by 1; 0 last is the dearest only for 0.
        best(x, 2, 6, 1, 2, 0);
        // the last one ends at 11: 2 last is 4 late.
        best(x, 3, 4, 0, 1, 2);
        best(x, 4, 1, 1, 2, 0);
        x.ahead(0, 1, true);
        // 0 1 2: 0, 1, 4 late; 0 2 1: 0, 2, 5 late; 2 0 1: 0, 4, 5 late: as dear as the first.
        best(x, 2, 2 * 1 + 3 * 4, 0, 1, 2);
        best(x, 3, 4, 0, 1, 2);
        best(x, 4, 3, 2, 0, 1);
    }

    private static void bestWithComesAndChanges() {
        WorkOrders x = of(3, 4);
        all(x, COMES, 10, 0);
        all(x, TOOL, 1, 0);
        x.change(0, 1, 6);
        // 1 ends at 4, the CHANGE is over at 10, as 0 comes: it is made while it waits.
        best(x, 0, 13, 1, 0);
        x.change(0, 1, 8);
        best(x, 0, 15, 1, 0);
        x.change(0, 1, 20);
        // 0 first: 10 .. 13, no CHANGE back, 1 till 17.
        best(x, 0, 17, 0, 1);
        x.change(1, 0, 11);
        best(x, 0, 27, 1, 0);
        WorkOrders alone = of(40);
        alone.put(0, TOOL, 2);
        alone.put(0, COMES, 99);
        best(alone, 0, 139, 0);
        best(alone, 1, 139, 0);
    }

    private static void bestOfLikeOnes() {
        WorkOrders x = of(2, 2, 2);
        for (int aim = 0; aim < 5; aim++) {
            best(x, aim, aim == 0 ? 6 : aim == 1 ? 12 : 0, 0, 1, 2);
        }
        x.put(1, WEIGHT, 2);
        best(x, 1, 2 * 2 + 4 + 6, 1, 0, 2);
        x.put(0, WEIGHT, 0);
        x.put(2, WEIGHT, 0);
        best(x, 1, 4, 1, 0, 2);
        x.put(2, DUE, 1);
        // All of weight are on time in the first order.
        best(x, 2, 0, 0, 1, 2);
        best(x, 4, 0, 0, 1, 2);
        best(x, 3, 1, 2, 0, 1);
    }

    private static void bestRefuses() {
        WorkOrders x = of(1, 2);
        long before = x.digest();
        Due.refused("6: aim", x, before, x.best(-1, 0), -10);
        Due.refused("6: aim", x, before, x.best(5, NONE), -10);
        Due.refused("6: what", x, before, x.best(0, 2), -10);
        Due.refused("6: what", x, before, x.best(0, -2), -10);
        Due.is("6: without WORKS", new WorkOrders().best(0, 0), -10);
    }

    private static void lastFirst() {
        WorkOrders x = of(4, 3, 2);
        all(x, DUE, 3, 5, 4);
        all(x, COMES, 50, 60, 70);
        all(x, TOOL, 0, 1, 2);
        x.change(0, 1, 20);
        x.change(1, 2, 20);
        // At 9: 6, 4, 5 late: 1 last; at 6: 3, 2 late: 2; then 0 at 4: 1.
        Due.is("7: greatest LATE", x.lastFirst(NONE), 4);
        Due.is("7: first", x.lastFirst(0), 0);
        Due.is("7: second", x.lastFirst(1), 2);
        Due.is("7: third", x.lastFirst(2), 1);
        x.ahead(1, 2, true);
        // 1 is followed by 2: 2 last with 5; at 7: 4, 2: 1; 0.
        Due.is("7: greatest LATE with AHEAD", x.lastFirst(NONE), 5);
        Due.is("7: first", x.lastFirst(0), 0);
        Due.is("7: second", x.lastFirst(1), 1);
        Due.is("7: third", x.lastFirst(2), 2);
        long before = x.digest();
        Due.refused("7: what", x, before, x.lastFirst(3), -10);
        Due.refused("7: what", x, before, x.lastFirst(-2), -10);
    }

    private static void lastFirstOfLikeOnes() {
        WorkOrders x = of(1, 1, 1);
        all(x, DUE, 300, 10, 20);
        // None is LATE: the greatest number goes last, whatever its DUE.
        for (int i = 0; i < 3; i++) {
            Due.is("7: like ones", x.lastFirst(i), i);
        }
        Due.is("7: none late", x.lastFirst(NONE), 0);
        all(x, DUE, 1, 1, 0);
        // At 3: 2, 2, 3 late: 1 last; at 2: 1, 2 late: 0; then 2.
        Due.is("7: like ones that are late", x.lastFirst(2), 1);
        Due.is("7: like ones that are late", x.lastFirst(1), 0);
        Due.is("7: like ones that are late", x.lastFirst(0), 2);
    }

    private static void onTime() {
        WorkOrders x = of(4, 3, 2, 5);
        all(x, DUE, 4, 6, 8, 9);
        all(x, COMES, 90, 90, 90, 90);
        x.ahead(3, 0, true);
        // 0 at 4; 1 at 7 > 6: 0 is put out; 2 at 5; 3 at 10 > 9: 3 is put out.
        Due.is("8: those that stay", x.onTime(), 0b0110);
        x.put(3, DUE, 10);
        Due.is("8: DUE as it ENDS is on time", x.onTime(), 0b1110);
        all(x, DUE, 0, 0, 0, 0);
        Due.is("8: none stays", x.onTime(), 0);
    }

    private static void onTimeOfLikeOnes() {
        WorkOrders x = of(3, 3, 3);
        all(x, DUE, 5, 5, 5);
        Due.is("8: of like ones the last is put out", x.onTime(), 0b001);
        all(x, DUE, 5, 4, 3);
        // By DUE: 2, 1, 0: of like ones 1, then 0 is put out.
        Due.is("8: the last by that order", x.onTime(), 0b100);
        x = of(2, 4, 4, 1);
        all(x, DUE, 10, 10, 9, 10);
        // 2 at 4, 0 at 6, 1 at 10, 3 at 11 > 10: of 2 and 1 the last by that order is 1.
        Due.is("8: the longest, the last of like ones", x.onTime(), 0b1101);
    }

    private static void broken() {
        WorkOrders x = of(4, 2);
        all(x, COMES, 0, 1);
        all(x, DUE, 10, 3);
        Due.is("9: none late", x.broken(0), 0);
        Due.is("9: no why", x.broken(1), NONE);
        Due.is("9: no why", x.broken(2), NONE);
        x.put(1, DUE, 2);
        Due.is("9: late by 1", x.broken(0), 1);
        Due.is("9: why from", x.broken(1), 1);
        Due.is("9: why till", x.broken(2), 2);
        long before = x.digest();
        Due.refused("9: what", x, before, x.broken(3), BAD);
        Due.refused("9: what", x, before, x.broken(-1), BAD);
        all(x, TOOL, 0, 1);
        x.change(0, 1, 20);
        x.change(1, 0, 20);
        x.ahead(0, 1, true);
        Due.is("9: no AHEAD, no CHANGES", x.broken(0), 1);
    }

    private static void brokenWhy() {
        WorkOrders x = of(3, 3);
        all(x, COMES, 5, 8);
        all(x, DUE, 6, 9);
        // 5 + 3 - 6, 5 + 6 - 9 and 8 + 3 - 9 are all 2: the first a, then the first d.
        Due.is("9: late", x.broken(0), 2);
        Due.is("9: the first a", x.broken(1), 5);
        Due.is("9: then the first d", x.broken(2), 6);
        x.put(0, DUE, 7);
        Due.is("9: the first a", x.broken(1), 5);
        Due.is("9: then d", x.broken(2), 9);
        x = of(40, 40, 40, 40, 40, 40, 40, 40);
        all(x, COMES, 99, 99, 99, 99, 99, 99, 99, 99);
        all(x, DUE, 0, 0, 0, 0, 0, 0, 0, 0);
        Due.is("9: the greatest of all", x.broken(0), 99 + 320);
        Due.is("9: why from", x.broken(1), 99);
        Due.is("9: why till", x.broken(2), 0);
        Due.is("10: the last minute of all", x.minute(418), 7);
        Due.is("10: none behind it", x.minute(419), NONE);
    }

    private static void minute() {
        WorkOrders x = of(3, 2, 1);
        all(x, COMES, 1, 2, 2);
        all(x, DUE, 20, 9, 9);
        int[] row = {NONE, 0, 1, 1, 2, 0, 0, NONE};
        for (int m = 0; m < row.length; m++) {
            Due.is("10: minute(" + m + ")", x.minute(m), row[m]);
        }
        Due.is("10: minute(999)", x.minute(999), NONE);
        long before = x.digest();
        Due.refused("10: minute(1000)", x, before, x.minute(1000), -10);
        Due.refused("10: minute(-1)", x, before, x.minute(-1), -10);
    }

    /** All orders of as many WORKS as there can be, with the greatest numbers. */
    private static void eightWorks() {
        WorkOrders x = of(40, 40, 40, 40, 40, 40, 40, 40);
        all(x, COMES, 99, 99, 99, 99, 99, 99, 99, 99);
        all(x, DUE, 0, 0, 0, 0, 0, 0, 0, 0);
        all(x, WEIGHT, 20, 20, 20, 20, 20, 20, 20, 20);
        all(x, TOOL, 0, 1, 2, 0, 1, 2, 0, 1);
        for (int from = 0; from < 3; from++) {
            for (int to = 0; to < 3; to++) {
                x.change(from, to, 20);
            }
        }
        // Like TOOLS behind one another: two CHANGES.
        best(x, 0, 99 + 8 * 40 + 2 * 20, 0, 3, 6, 1, 4, 7, 2, 5);
        best(x, 3, 99 + 8 * 40 + 2 * 20, 0, 3, 6, 1, 4, 7, 2, 5);
        best(x, 4, 160, 0, 1, 2, 3, 4, 5, 6, 7);
        // 139 on in forties, by 20 more for 5, and by 20 more for 2 at the end.
        best(x, 1, 20 * (8 * 139 + 28 * 40 + 5 * 20 + 2 * 20), 0, 3, 6, 1, 4, 7, 2, 5);
    }
}
