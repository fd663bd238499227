/** The sentences on an ORDER, on AIMS and on THE BEST; promise 6. */
final class EdgesOfBest {
    private static final int NONE = WorkOrders.NONE;
    private static final int COMES = 1, DUE = 2, WEIGHT = 3, TOOL = 4;

    static void all() {
        firstNeedsNoChange();
        noneAhead();
        oneByOne();
        changeFirst();
        noSoonerThanItComes();
        late();
        lastEnd();
        endsByWeights();
        latesByWeights();
        greatestLate();
        weightsOfLate();
        theLeast();
        likeOnes();
        theBest();
        ithWork();
        bad();
    }

    private static void best(WorkOrders x, int aim, int makes, int... order) {
        Edge.row("best by " + aim, i -> x.best(aim, i), makes, order);
    }

    private static void firstNeedsNoChange() {
        Edge.of(Edge.TERMS, "the bench has none at first: the first WORK needs no CHANGE.");
        for (int tool = 0; tool < 3; tool++) {
            WorkOrders x = Edge.of(5, 5);
            for (int from = 0; from < 3; from++) {
                for (int to = 0; to < 3; to++) {
                    x.change(from, to, 20);
                }
            }
            Edge.putAll(x, TOOL, tool, tool);
            Edge.is("TOOL " + tool, x.best(0, NONE), 10);
            Edge.is("TOOL " + tool + ", judged", Edge.judged(x, 0, 1, 0), 10);
            x.put(0, TOOL, (tool + 1) % 3);
            Edge.is("then another TOOL", x.best(0, NONE), 30);
        }
    }

    private static void noneAhead() {
        Edge.of(Edge.TERMS, "AN ORDER of all WORKS, none ahead of what must be ahead of it:");
        WorkOrders x = Edge.of(8, 7, 6, 5, 4, 3, 2, 1);
        for (int i = 7; i > 0; i--) {
            x.ahead(i, i - 1, true);
        }
        int[] ends = {36, 1 + 3 + 6 + 10 + 15 + 21 + 28 + 36, 0, 0, 0};
        for (int aim = 0; aim < 5; aim++) {
            best(x, aim, ends[aim], 7, 6, 5, 4, 3, 2, 1, 0);
        }
        WorkOrders y = Edge.of(1, 1, 1, 1);
        y.ahead(3, 0, true);
        best(y, 0, 4, 1, 2, 3, 0);
    }

    private static void oneByOne() {
        Edge.of(Edge.TERMS, "one by one:");
        WorkOrders x = Edge.eight(40);
        Edge.is("eight of 40", x.best(0, NONE), 320);
        Edge.is("each behind the one ahead", x.best(1, NONE), 40 * (1 + 2 + 3 + 4 + 5 + 6 + 7 + 8));
        WorkOrders none = new WorkOrders();
        for (int aim = 0; aim < 5; aim++) {
            Edge.is("without WORKS, by " + aim, none.best(aim, NONE), 0);
        }
    }

    private static void changeFirst() {
        Edge.of(Edge.TERMS, "CHANGE (from the TOOL of the one ahead),");
        WorkOrders x = Edge.of(1, 1, 1);
        Edge.putAll(x, TOOL, 0, 1, 2);
        x.change(0, 1, 3);
        x.change(1, 2, 5);
        x.change(0, 2, 20);
        x.change(2, 0, 11);
        x.change(1, 0, 13);
        x.change(2, 1, 17);
        Edge.is("0 1 2", Edge.judged(x, 0, 0, 1, 2), 3 + 3 + 5);
        Edge.is("0 2 1", Edge.judged(x, 0, 0, 2, 1), 3 + 20 + 17);
        Edge.is("1 0 2", Edge.judged(x, 0, 1, 0, 2), 3 + 13 + 20);
        Edge.is("2 1 0", Edge.judged(x, 0, 2, 1, 0), 3 + 17 + 13);
        best(x, 0, 11, 0, 1, 2);
    }

    private static void noSoonerThanItComes() {
        Edge.of(Edge.TERMS, "then it begins, no sooner than it COMES (the CHANGE may be made sooner), and ENDS.");
        WorkOrders x = Edge.of(3, 4);
        x.put(1, COMES, 10);
        x.put(1, TOOL, 1);
        int[] changes = {0, 6, 7, 8, 20};
        int[] ends = {14, 14, 14, 15, 27};
        for (int i = 0; i < changes.length; i++) {
            x.change(0, 1, changes[i]);
            Edge.is("END 3, a CHANGE of " + changes[i] + ", COMES 10", Edge.judged(x, 0, 0, 1), ends[i]);
        }
        x.change(0, 1, 0);
        int[] comes = {0, 2, 3, 4, 99};
        int[] then = {7, 7, 7, 8, 103};
        for (int i = 0; i < comes.length; i++) {
            x.put(1, COMES, comes[i]);
            Edge.is("END 3, COMES " + comes[i], Edge.judged(x, 0, 0, 1), then[i]);
        }
        Edge.is("first, it waits for itself alone", Edge.judged(x, 1, 1, 0), 103 + 106);
    }

    private static void late() {
        Edge.of(Edge.TERMS, "LATE: by how much a WORK ENDS behind its DUE (0 at least).");
        WorkOrders x = Edge.of(5, 4);
        x.put(0, DUE, 5);
        x.put(1, DUE, 9);
        for (int aim = 2; aim < 5; aim++) {
            Edge.is("both END as they are DUE, by " + aim, Edge.judged(x, aim, 0, 1), 0);
        }
        x.put(1, DUE, 8);
        for (int aim = 2; aim < 5; aim++) {
            Edge.is("one minute behind, by " + aim, Edge.judged(x, aim, 0, 1), 1);
        }
        x.put(0, DUE, 300);
        for (int aim = 2; aim < 5; aim++) {
            Edge.is("what is sooner than DUE makes nothing good, by " + aim, Edge.judged(x, aim, 0, 1), 1);
        }
        x.put(1, DUE, 300);
        for (int aim = 2; aim < 5; aim++) {
            Edge.is("both far sooner, by " + aim, Edge.judged(x, aim, 0, 1), 0);
            Edge.is("both far sooner, best by " + aim, x.best(aim, NONE), 0);
        }
    }

    private static void lastEnd() {
        Edge.of(Edge.TERMS, "AIMS: 0 the last END;");
        WorkOrders x = Edge.of(2, 3);
        Edge.putAll(x, WEIGHT, 0, 0);
        best(x, 0, 5, 0, 1);
        x.put(0, COMES, 99);
        best(x, 0, 101, 1, 0);
    }

    private static void endsByWeights() {
        Edge.of(Edge.TERMS, "1 ENDS by WEIGHTS together;");
        WorkOrders x = Edge.of(2, 3);
        Edge.putAll(x, WEIGHT, 0, 20);
        best(x, 1, 60, 1, 0);
        Edge.putAll(x, WEIGHT, 20, 20);
        best(x, 1, 20 * 2 + 20 * 5, 0, 1);
        Edge.putAll(x, WEIGHT, 0, 0);
        best(x, 1, 0, 0, 1);
        WorkOrders most = Edge.eight(40);
        Edge.putAll(most, WEIGHT, 20, 20, 20, 20, 20, 20, 20, 20);
        Edge.putAll(most, COMES, 99, 99, 99, 99, 99, 99, 99, 99);
        Edge.is("the greatest numbers", most.best(1, NONE), 20 * (8 * 99 + 40 * 36));
    }

    private static void latesByWeights() {
        Edge.of(Edge.TERMS, "2 LATES by WEIGHTS together;");
        WorkOrders x = Edge.of(2, 3);
        Edge.putAll(x, DUE, 0, 0);
        Edge.putAll(x, WEIGHT, 0, 20);
        best(x, 2, 60, 1, 0);
        Edge.putAll(x, DUE, 2, 4);
        Edge.putAll(x, WEIGHT, 1, 1);
        best(x, 2, 1, 0, 1);
    }

    private static void greatestLate() {
        Edge.of(Edge.TERMS, "3 the greatest LATE;");
        WorkOrders x = Edge.of(2, 3);
        Edge.putAll(x, DUE, 1, 3);
        Edge.putAll(x, WEIGHT, 0, 20);
        // Each way the last is LATE by more, whatever the WEIGHTS: 5 - 3 or 5 - 1.
        best(x, 3, 2, 0, 1);
    }

    private static void weightsOfLate() {
        Edge.of(Edge.TERMS, "4 the WEIGHTS of WORKS that are LATE together.");
        WorkOrders x = Edge.of(2, 3);
        Edge.putAll(x, DUE, 2, 3);
        Edge.putAll(x, WEIGHT, 7, 9);
        best(x, 4, 7, 1, 0);
        Edge.putAll(x, WEIGHT, 9, 7);
        best(x, 4, 7, 0, 1);
        Edge.putAll(x, DUE, 2, 5);
        best(x, 4, 0, 0, 1);
        Edge.putAll(x, DUE, 0, 0);
        best(x, 4, 16, 0, 1);
        WorkOrders most = Edge.eight(40);
        Edge.putAll(most, WEIGHT, 20, 20, 20, 20, 20, 20, 20, 20);
        Edge.putAll(most, DUE, 39, 39, 39, 39, 39, 39, 39, 39);
        Edge.is("all are LATE", most.best(4, NONE), 160);
    }

    private static void theLeast() {
        Edge.of(Edge.TERMS, "THE BEST by an AIM: the least,");
        WorkOrders x = Edge.of(3, 1, 2);
        Edge.putAll(x, DUE, 2, 3, 4);
        int[] least = {6, 1 + 3 + 6, 4, 2, 1};
        int[][] orders = {{0, 1, 2}, {0, 2, 1}, {1, 0, 2}, {1, 2, 0}, {2, 0, 1}, {2, 1, 0}};
        for (int aim = 0; aim < 5; aim++) {
            Edge.is("by " + aim, x.best(aim, NONE), least[aim]);
            for (int[] order : orders) {
                Edge.holds("no ORDER makes less by " + aim, Edge.judged(x, aim, order) >= least[aim]);
            }
        }
    }

    private static void likeOnes() {
        Edge.of(Edge.TERMS, "of like ones the first ORDER as a row by numbers.");
        WorkOrders x = Edge.eight(7);
        for (int aim = 0; aim < 5; aim++) {
            for (int i = 0; i < 8; i++) {
                Edge.is("all alike, by " + aim, x.best(aim, i), i);
            }
        }
        WorkOrders y = Edge.of(2, 2, 2, 2);
        y.put(3, DUE, 2);
        // 3 must be first by 2 to 4, the others follow by numbers.
        for (int aim = 2; aim < 5; aim++) {
            best(y, aim, 0, 3, 0, 1, 2);
        }
        y.put(3, DUE, 4);
        // 0 may be ahead of it, and is as good.
        for (int aim = 2; aim < 5; aim++) {
            best(y, aim, 0, 0, 3, 1, 2);
        }
    }

    private static void theBest() {
        Edge.of(6, "THE BEST by an AIM: what it makes (what = NONE),");
        WorkOrders x = Edge.of(40);
        Edge.putAll(x, DUE, 0);
        Edge.putAll(x, WEIGHT, 20);
        int[] makes = {40, 800, 800, 40, 20};
        for (int aim = 0; aim < 5; aim++) {
            Edge.is("one WORK, by " + aim, x.best(aim, -1), makes[aim]);
            Edge.is("none, by " + aim, new WorkOrders().best(aim, -1), 0);
        }
    }

    private static void ithWork() {
        Edge.of(6, "the i-th WORK (what = i).");
        WorkOrders x = Edge.of(8, 7, 6, 5, 4, 3, 2, 1);
        for (int i = 0; i < 8; i++) {
            Edge.is("best(1, " + i + ")", x.best(1, i), 7 - i);
        }
    }

    private static void bad() {
        Edge.of(6, "BAD: -10.");
        WorkOrders x = Edge.of(1, 2);
        for (int aim = 0; aim < 5; aim++) {
            int by = aim;
            Edge.refuses("what, by " + aim, x, -10, v -> x.best(by, v), Edge.beside(-1, 1));
        }
        for (int what = -1; what < 2; what++) {
            int of = what;
            Edge.refuses("aim, of " + what, x, -10, v -> x.best(v, of), Edge.beside(0, 4));
        }
        WorkOrders none = new WorkOrders();
        Edge.refuses("aim without WORKS", none, -10, v -> none.best(v, NONE), -1, 5);
        Edge.refuses("what without WORKS", none, -10, v -> none.best(0, v), -2, 0, 1);
        WorkOrders eight = Edge.eight(1);
        Edge.refuses("what of eight", eight, -10, v -> eight.best(4, v), Edge.beside(-1, 7));
    }
}
