/** The sentences on ROWS of benches; promises 14 to 20. */
final class EdgesOfRows {
    private static final int NONE = WorkOrders.NONE, BAD = WorkOrders.BAD;
    private static final int COMES = 1, TOOL = 4;

    static void all() {
        benchesOfRow();
        needsAtFirst();
        ways();
        oneOrder();
        leaves();
        wayOfNone();
        holds();
        goesOn();
        end();
        ruleOfTwo();
        ruleShorter();
        ruleOthers();
        ruleLikeOnes();
        bestRowLeast();
        bestRowLikeOnes();
        boundOfRow();
        anyOfTwo();
        anyGreatest();
        benches();
        benchesBad();
        needs();
        needsBad();
        way();
        wayBad();
        byRule();
        byRuleIth();
        byRuleBad();
        bestRow();
        bestRowIth();
        bestRowBad();
        bound();
        boundWithoutWorks();
        any();
    }

    /** A WORK for each row of needs. */
    private static WorkOrders of(int[]... needs) {
        WorkOrders x = new WorkOrders();
        for (int[] row : needs) {
            int work = x.work(1);
            for (int bench = 0; bench < row.length; bench++) {
                Edge.taken(x.needs(work, bench, row[bench]));
            }
        }
        return x;
    }

    private static int[] n(int... needs) {
        return needs;
    }

    private static void benchesOfRow() {
        Edge.of(Edge.TERMS, "ROWS of benches 2 .. 4 (2 at first):");
        WorkOrders x = of(n(1, 2, 4, 8));
        Edge.is("two at first", x.bestRow(NONE), 3);
        Edge.is("2 at first", x.benches(4), 2);
        Edge.is("the most", x.bestRow(NONE), 15);
        Edge.is("4 become 3", x.benches(3), 4);
        Edge.is("three", x.bestRow(NONE), 7);
        Edge.is("3 become 2", x.benches(2), 3);
        Edge.is("the least", x.bestRow(NONE), 3);
        Edge.refuses("benches", x, BAD, x::benches, Edge.beside(2, 4));
    }

    private static void needsAtFirst() {
        Edge.of(Edge.TERMS,
                "each WORK needs so long on each (1 .. 40 at first its LONG on bench 0, 1 on others; told by bench).");
        WorkOrders x = Edge.of(40, 1);
        x.benches(4);
        Edge.is("at first", Edge.judged(x, 5, 1, 0), 1 + 40 + 3);
        for (int bench = 0; bench < 4; bench++) {
            int at = bench;
            int first = bench == 0 ? 40 : 1;
            Edge.is("at first on " + bench, x.needs(0, bench, 40), first);
            Edge.is("the greatest on " + bench, x.needs(0, bench, 1), 40);
            Edge.is("the least on " + bench, x.needs(0, bench, 39), 1);
            Edge.is("of the other one on " + bench, x.needs(1, bench, 1), 1);
            Edge.refuses("on " + bench, x, BAD, v -> x.needs(0, at, v), Edge.beside(1, 40));
        }
    }

    /** Seven that are quick on the bench ahead of a way, and one that is long there: the END of it. */
    private static WorkOrders sevenAndOne(int bench) {
        WorkOrders x = Edge.eight(1);
        x.benches(4);
        for (int i = 0; i < 7; i++) {
            x.needs(i, bench, 7);
        }
        x.needs(7, bench - 1, 40);
        for (int i = 0; i < 8; i++) {
            x.next(i);
        }
        return x;
    }

    private static void ways() {
        Edge.of(Edge.TERMS, "WAYS between hold how many WORKS (0 .. 9; 9 at first):");
        for (int bench = 1; bench < 4; bench++) {
            int at = bench;
            WorkOrders x = sevenAndOne(bench);
            int of9 = x.judge(5);
            Edge.is("9 at first, ahead of " + bench, x.way(bench, 0), 9);
            Edge.holds("a way of 0 holds less", x.judge(5) > of9);
            Edge.is("the least, ahead of " + bench, x.way(bench, 9), 0);
            Edge.is("the greatest, ahead of " + bench, x.judge(5), of9);
            Edge.refuses("ahead of " + bench, x, BAD, v -> x.way(at, v), Edge.beside(0, 9));
        }
    }

    private static void oneOrder() {
        Edge.of(Edge.TERMS, "all WORKS go through all benches in one ORDER (AHEAD, COMES, TOOLS not looked at);");
        WorkOrders x = of(n(5, 2), n(3, 9));
        x.ahead(0, 1, true);
        Edge.putAll(x, COMES, 99, 99);
        Edge.putAll(x, TOOL, 1, 2);
        x.change(1, 2, 20);
        x.change(2, 1, 20);
        // 1: 3, 12; 0: 8, 14.
        Edge.row("bestRow", x::bestRow, 14, 1, 0);
        Edge.row("byRule", x::byRule, 14, 1, 0);
        Edge.is("judge(5)", Edge.judged(x, 5, 1, 0), 14);
        // None goes by another one: 0 is quick on bench 1, but 1 is there first.
        WorkOrders y = of(n(1, 40), n(2, 1), n(30, 1));
        Edge.is("none goes by", Edge.judged(y, 5, 0, 1, 2), 1 + 40 + 1 + 1);
    }

    private static void leaves() {
        Edge.of(Edge.TERMS, "a WORK leaves a bench as it is done there and the way ahead of the next bench has room");
        // Ahead of bench 1 the quick ones begin on it at 1, 8, 15, ..: the sixth behind the first leaves as the one
        // so many places ahead begins there as the way holds. Then 40 minutes, and no sooner than 50, and 3 more.
        int[] ends = {86, 79, 72, 65, 58, 53, 53, 53, 53, 53};
        for (int bench = 1; bench < 4; bench++) {
            WorkOrders x = sevenAndOne(bench);
            for (int v = 0; v < 10; v++) {
                x.way(bench, v);
                Edge.is("a way of " + v + " ahead of " + bench, x.judge(5), ends[v]);
            }
        }
    }

    private static void wayOfNone() {
        Edge.of(Edge.TERMS, "(with a way of 0: as the next bench is free and takes it);");
        WorkOrders x = of(n(1, 1, 1, 5), n(1, 1, 1, 5), n(1, 1, 1, 5), n(1, 1, 1, 5), n(20, 1, 1, 5));
        x.benches(4);
        Edge.is("ways of 9", Edge.judged(x, 5, 0, 1, 2, 3, 4), 31);
        for (int bench = 1; bench < 4; bench++) {
            x.way(bench, 0);
        }
        // Bench 3 is free at 8, 13, 18: each time all move up at once; 4 begins at 8: 28, 29, 30, 35.
        Edge.is("ways of 0", x.judge(5), 35);
        WorkOrders y = of(n(3, 3), n(3, 3));
        y.way(1, 0);
        // 1 is done as 0 is: it goes on at once.
        Edge.is("free as it is done", Edge.judged(y, 5, 0, 1), 9);
    }

    private static void holds() {
        Edge.of(Edge.TERMS, "else it stays there and holds it;");
        WorkOrders x = of(n(1, 10), n(1, 1), n(5, 1));
        x.way(1, 0);
        // 1 is done at 2 and stays till 11: 2 from 11 to 16, 17.
        Edge.is("a way of 0", Edge.judged(x, 5, 0, 1, 2), 17);
        x.way(1, 1);
        // 1 goes into the way at 2: 2 till 7, there from 12 on.
        Edge.is("a way of 1", x.judge(5), 13);
        WorkOrders y = of(n(1, 10), n(1, 1), n(1, 1), n(5, 1));
        y.way(1, 1);
        // 1 is in the way till 11, so 2 stays till 11: 3 till 16, 17.
        Edge.is("a way of 1 that is full", Edge.judged(y, 5, 0, 1, 2, 3), 17);
        y.way(1, 2);
        Edge.is("a way of 2", y.judge(5), 14);
    }

    private static void goesOn() {
        Edge.of(Edge.TERMS, "from the way it goes on as that bench is free.");
        WorkOrders x = of(n(1, 10), n(1, 10), n(1, 10));
        for (int v = 0; v < 10; v++) {
            x.way(1, v);
            Edge.is("a way of " + v, Edge.judged(x, 5, 0, 1, 2), 31);
        }
        WorkOrders y = of(n(10, 1), n(10, 1));
        Edge.is("a free bench takes it at once", Edge.judged(y, 5, 0, 1), 21);
    }

    private static void end() {
        Edge.of(Edge.TERMS, "Its END is on the last bench.");
        WorkOrders x = of(n(10, 20, 30, 40));
        int[] ends = {30, 60, 100};
        for (int benches = 2; benches <= 4; benches++) {
            x.benches(benches);
            Edge.is("judge(5) on " + benches, Edge.judged(x, 5, 0), ends[benches - 2]);
            Edge.is("bestRow on " + benches, x.bestRow(NONE), ends[benches - 2]);
        }
    }

    private static void ruleOfTwo() {
        Edge.of(Edge.TERMS, "BY THE RULE (two benches, ways of 9):");
        WorkOrders x = of(n(1, 10, 40, 40), n(1, 10, 1, 40), n(9, 9, 40, 1));
        Edge.row("at first", x::byRule, 30, 0, 1, 2);
        x.benches(4);
        x.way(1, 0);
        x.way(2, 0);
        Edge.row("more benches and no ways", x::byRule, 30, 0, 1, 2);
    }

    private static void ruleShorter() {
        Edge.of(Edge.TERMS, "first those shorter on bench 0 than on bench 1, by that time rising,");
        WorkOrders x = of(n(3, 3), n(3, 4), n(2, 2));
        // One that is as long on both is none of these.
        Edge.row("alike on both", x::byRule, 3 + 4 + 3 + 2, 1, 0, 2);
        WorkOrders y = of(n(39, 40), n(1, 2), n(5, 40), n(4, 5));
        Edge.row("rising", y::byRule, 1 + 2 + 2 + 5 + 40 + 40, 1, 3, 2, 0);
    }

    private static void ruleOthers() {
        Edge.of(Edge.TERMS, "then the others by their time on bench 1 falling;");
        WorkOrders x = of(n(40, 1), n(40, 40), n(40, 39), n(3, 2));
        // 40, 80, 83, 123 on bench 0; 80, 119, 121, 124 on bench 1.
        Edge.row("falling", x::byRule, 124, 1, 2, 3, 0);
        WorkOrders y = of(n(40, 39), n(1, 2));
        Edge.row("behind those that are shorter", y::byRule, 1 + 40 + 39, 1, 0);
    }

    private static void ruleLikeOnes() {
        Edge.of(Edge.TERMS, "of like ones by numbers.");
        WorkOrders x = of(n(2, 9), n(2, 3), n(2, 9), n(2, 3));
        Edge.row("shorter ones", x::byRule, 2 + 24, 0, 1, 2, 3);
        WorkOrders y = of(n(9, 2), n(2, 2), n(9, 2), n(3, 2));
        Edge.row("others", y::byRule, 23 + 2, 0, 1, 2, 3);
        Edge.row("eight", Edge.eight(1)::byRule, 9, 0, 1, 2, 3, 4, 5, 6, 7);
    }

    private static void bestRowLeast() {
        Edge.of(Edge.TERMS, "BEST ROW: the ORDER with the least last END,");
        WorkOrders x = of(n(9, 1), n(5, 5), n(1, 9));
        // 1, 6, 15 on bench 0; 10, 15, 16 on bench 1.
        Edge.row("two benches", x::bestRow, 16, 2, 1, 0);
        int[][] orders = {{0, 1, 2}, {0, 2, 1}, {1, 0, 2}, {1, 2, 0}, {2, 0, 1}, {2, 1, 0}};
        for (int benches = 2; benches <= 4; benches++) {
            x.benches(benches);
            for (int v = 0; v < 2; v++) {
                x.way(1, v);
                int least = 1000;
                for (int[] order : orders) {
                    least = Math.min(least, Edge.judged(x, 5, order));
                }
                Edge.is("of all ORDERS on " + benches + ", a way of " + v, x.bestRow(NONE), least);
            }
        }
    }

    private static void bestRowLikeOnes() {
        Edge.of(Edge.TERMS, "of like ones the first as a row.");
        WorkOrders x = Edge.eight(1);
        for (int benches = 2; benches <= 4; benches++) {
            x.benches(benches);
            Edge.row("all alike", x::bestRow, 7 + benches, 0, 1, 2, 3, 4, 5, 6, 7);
        }
        WorkOrders y = of(n(2, 1), n(2, 2), n(1, 2));
        // Only with 2 first and 0 last is it 6.
        Edge.row("one is best", y::bestRow, 6, 2, 1, 0);
        WorkOrders z = of(n(2, 1), n(2, 1), n(1, 2));
        // 2 0 1 is as good: 1, 3, 5 and 3, 4, 6; 0 1 2 is not: 2, 4, 5 and 3, 5, 7.
        Edge.row("two are best", z::bestRow, 6, 0, 2, 1);
    }

    private static void boundOfRow() {
        Edge.of(Edge.TERMS, "BOUND: the greatest over benches of all times there and the least of what a WORK needs"
                + " ahead of it, and the least behind it.");
        WorkOrders x = of(n(5, 2, 7, 1), n(3, 9, 4, 6));
        Edge.is("two: 8 + 2, 11 + 3", x.bound(), 14);
        x.benches(3);
        Edge.is("three: 8 + 9, 11 + 3 + 4, 11 + 7", x.bound(), 18);
        x.benches(4);
        Edge.is("four: 8 + 10, 11 + 3 + 8, 11 + 7 + 1, 7 + 14", x.bound(), 22);
        int[][] greatest = {n(40, 1, 1, 1), n(1, 40, 1, 1), n(1, 1, 40, 1), n(1, 1, 1, 40)};
        for (int[] needs : greatest) {
            WorkOrders y = of(needs, needs, needs);
            y.benches(4);
            Edge.is("one bench has most to do", y.bound(), 123);
        }
        // The least ahead and the least behind may be of two WORKS.
        WorkOrders z = of(n(1, 5, 9), n(9, 5, 1));
        z.benches(3);
        Edge.is("10 + 6, 10 + 1 + 1, 10 + 6", z.bound(), 16);
        WorkOrders w = of(n(1, 20, 9), n(9, 20, 1));
        w.benches(3);
        Edge.is("40 + 1 + 1", w.bound(), 42);
    }

    private static void anyOfTwo() {
        Edge.of(Edge.TERMS, "ANY: two benches, each WORK on both in any order (first this or that), never at once:"
                + " the least last END:");
        WorkOrders x = of(n(3, 4), n(4, 3));
        Edge.is("each begins on another bench", x.any(), 7);
        WorkOrders y = of(n(40, 40));
        Edge.is("never at once", y.any(), 80);
        WorkOrders z = of(n(1, 1, 40, 40), n(1, 1, 40, 40));
        z.benches(4);
        z.way(1, 0);
        Edge.is("two benches alone", z.any(), 2);
    }

    private static void anyGreatest() {
        Edge.of(Edge.TERMS, "the greatest of all times on bench 0, on bench 1, and of both of one WORK.");
        Edge.is("all on bench 0", of(n(6, 1), n(7, 2)).any(), 13);
        Edge.is("all on bench 1", of(n(1, 6), n(2, 7)).any(), 13);
        Edge.is("both of one, the first", of(n(7, 9), n(1, 1)).any(), 16);
        Edge.is("both of one, the last", of(n(1, 1), n(7, 9)).any(), 16);
        Edge.is("all alike", of(n(3, 3), n(3, 3)).any(), 6);
        int[] most = n(40, 40);
        Edge.is("the greatest numbers", of(most, most, most, most, most, most, most, most).any(), 320);
    }

    private static void benches() {
        Edge.of(14, "Benches of the row: what they were.");
        WorkOrders x = new WorkOrders();
        int was = 2;
        for (int n : new int[] {2, 3, 4, 4, 2, 4, 3, 3}) {
            Edge.is("benches(" + n + ")", x.benches(n), was);
            was = n;
        }
    }

    private static void benchesBad() {
        Edge.of(14, " BAD.");
        WorkOrders x = new WorkOrders();
        Edge.refuses("benches", x, BAD, x::benches, Edge.beside(2, 4));
        Edge.is("they stay", x.benches(4), 2);
        Edge.refuses("benches", x, BAD, x::benches, Edge.beside(2, 4));
        Edge.is("they stay", x.benches(4), 4);
    }

    private static void needs() {
        Edge.of(15, "What a WORK needs on a bench (0 .. 3): what it was.");
        WorkOrders x = Edge.of(7, 8);
        for (int bench = 0; bench < 4; bench++) {
            Edge.is("of 0", x.needs(0, bench, 10 + bench), bench == 0 ? 7 : 1);
            Edge.is("of 1", x.needs(1, bench, 20 + bench), bench == 0 ? 8 : 1);
        }
        for (int bench = 0; bench < 4; bench++) {
            Edge.is("of 0, each its own, whatever benches there are", x.needs(0, bench, 1), 10 + bench);
            Edge.is("of 1, each its own, whatever benches there are", x.needs(1, bench, 1), 20 + bench);
        }
        Edge.is("LONG is another thing", x.put(0, 0, 7), 7);
    }

    private static void needsBad() {
        Edge.of(15, " BAD.");
        WorkOrders none = new WorkOrders();
        Edge.refuses("without WORKS", none, BAD, v -> none.needs(v, 0, 1), 0, 1, -1);
        WorkOrders x = Edge.of(7, 8);
        Edge.refuses("work", x, BAD, v -> x.needs(v, 3, 1), Edge.beside(0, 1));
        Edge.refuses("bench", x, BAD, v -> x.needs(1, v, 1), Edge.beside(0, 3));
        Edge.refuses("v", x, BAD, v -> x.needs(1, 3, v), Edge.beside(1, 40));
    }

    private static void way() {
        Edge.of(16, "What the way ahead of a bench (1 .. 3) holds: what it was.");
        WorkOrders x = new WorkOrders();
        for (int bench = 1; bench < 4; bench++) {
            Edge.is("at first", x.way(bench, bench), 9);
        }
        for (int bench = 1; bench < 4; bench++) {
            Edge.is("each its own, whatever benches there are", x.way(bench, 0), bench);
            Edge.is("the least", x.way(bench, 9), 0);
            Edge.is("the greatest", x.way(bench, 9), 9);
        }
    }

    private static void wayBad() {
        Edge.of(16, " BAD.");
        WorkOrders x = new WorkOrders();
        Edge.refuses("bench", x, BAD, v -> x.way(v, 1), Edge.beside(1, 3));
        for (int bench = 1; bench < 4; bench++) {
            int at = bench;
            Edge.refuses("v ahead of " + bench, x, BAD, v -> x.way(at, v), Edge.beside(0, 9));
        }
    }

    private static void byRule() {
        Edge.of(17, "BY THE RULE: its last END with ways of 9 on benches 0 and 1 alone (what = NONE),");
        Edge.is("without WORKS", new WorkOrders().byRule(-1), 0);
        Edge.is("one WORK", of(n(40, 40)).byRule(-1), 80);
        WorkOrders x = sevenAndOne(1);
        int end = x.byRule(-1);
        Edge.is("those of 1 and 7, then that of 40 and 1", end, 51);
        for (int v = 0; v < 10; v++) {
            x.way(1, v);
            Edge.is("whatever the way holds: " + v, x.byRule(-1), end);
        }
        for (int benches = 2; benches < 5; benches++) {
            x.benches(benches);
            Edge.is("whatever benches there are: " + benches, x.byRule(-1), end);
        }
    }

    private static void byRuleIth() {
        Edge.of(17, "the i-th WORK (what = i).");
        WorkOrders x = of(n(8, 9), n(7, 9), n(6, 9), n(5, 9), n(4, 9), n(3, 9), n(2, 9), n(1, 9));
        for (int i = 0; i < 8; i++) {
            Edge.is("byRule(" + i + ")", x.byRule(i), 7 - i);
        }
        Edge.is("one WORK", Edge.of(1).byRule(0), 0);
    }

    private static void byRuleBad() {
        Edge.of(17, "BAD: -10.");
        WorkOrders none = new WorkOrders();
        Edge.refuses("without WORKS", none, -10, none::byRule, Edge.beside(-1, -1));
        WorkOrders x = Edge.of(1, 1);
        Edge.refuses("two WORKS", x, -10, x::byRule, Edge.beside(-1, 1));
        WorkOrders eight = Edge.eight(1);
        Edge.refuses("eight WORKS", eight, -10, eight::byRule, Edge.beside(-1, 7));
    }

    private static void bestRow() {
        Edge.of(18, "BEST ROW: its last END (what = NONE),");
        Edge.is("without WORKS", new WorkOrders().bestRow(-1), 0);
        WorkOrders x = of(n(40, 40, 40, 40));
        x.benches(4);
        Edge.is("one WORK", x.bestRow(-1), 160);
        int[] most = n(40, 40, 40, 40);
        WorkOrders y = of(most, most, most, most, most, most, most, most);
        y.benches(4);
        Edge.is("the greatest numbers", y.bestRow(-1), 8 * 40 + 3 * 40);
        for (int bench = 1; bench < 4; bench++) {
            y.way(bench, 0);
        }
        Edge.is("alike on all benches none has to stay", y.bestRow(-1), 8 * 40 + 3 * 40);
    }

    private static void bestRowIth() {
        Edge.of(18, "the i-th WORK.");
        // Each is shorter on bench 0 by more than the one ahead of it as a row is, and long ones must follow.
        WorkOrders x = of(n(8, 8), n(7, 8), n(6, 7), n(5, 6), n(4, 5), n(3, 4), n(2, 3), n(1, 2));
        Edge.is("none waits on bench 1", x.bestRow(NONE), 1 + 2 + 3 + 4 + 5 + 6 + 7 + 8 + 8);
        for (int i = 0; i < 8; i++) {
            Edge.is("bestRow(" + i + ")", x.bestRow(i), 7 - i);
        }
        Edge.is("one WORK", Edge.of(1).bestRow(0), 0);
    }

    private static void bestRowBad() {
        Edge.of(18, "BAD: -10.");
        WorkOrders none = new WorkOrders();
        Edge.refuses("without WORKS", none, -10, none::bestRow, Edge.beside(-1, -1));
        WorkOrders x = Edge.of(1, 1);
        Edge.refuses("two WORKS", x, -10, x::bestRow, Edge.beside(-1, 1));
        WorkOrders eight = Edge.eight(1);
        Edge.refuses("eight WORKS", eight, -10, eight::bestRow, Edge.beside(-1, 7));
    }

    private static void bound() {
        Edge.of(19, "BOUND.");
        WorkOrders x = Edge.of(40);
        int[] bounds = {41, 42, 43};
        for (int benches = 2; benches < 5; benches++) {
            x.benches(benches);
            Edge.is("one WORK on " + benches, x.bound(), bounds[benches - 2]);
        }
        WorkOrders y = sevenAndOne(1);
        Edge.is("50 + 1 + 2 on bench 1", y.bound(), 53);
        y.way(1, 0);
        Edge.is("ways are not looked at", y.bound(), 53);
    }

    private static void boundWithoutWorks() {
        Edge.of(19, "(0 without WORKS.)");
        WorkOrders x = new WorkOrders();
        for (int benches = 2; benches < 5; benches++) {
            x.benches(benches);
            Edge.is("on " + benches, x.bound(), 0);
        }
    }

    private static void any() {
        Edge.of(20, "ANY.");
        Edge.is("without WORKS", new WorkOrders().any(), 0);
        Edge.is("one WORK", Edge.of(40).any(), 41);
        Edge.is("eight WORKS", Edge.eight(40).any(), 320);
    }
}
