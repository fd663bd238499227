/** The sentences on THE TOLD ORDER; promises 11 to 13. */
final class EdgesOfToldOrders {
    private static final int NONE = WorkOrders.NONE, BAD = WorkOrders.BAD;
    private static final int COMES = 1, DUE = 2, WEIGHT = 3, TOOL = 4;

    static void all() {
        next();
        nextBad();
        anew();
        judgeOneBench();
        judgeRow();
        judgeBad();
        judgeNotAll();
        judgeAhead();
    }

    private static void next() {
        Edge.of(11, "A WORK behind THE TOLD ORDER: how many.");
        WorkOrders x = Edge.eight(1);
        for (int i = 0; i < 8; i++) {
            Edge.is("next(" + (i * 3 % 8) + ")", x.next(i * 3 % 8), i + 1);
            Edge.is("count(1)", x.count(1), i + 1);
        }
    }

    private static void nextBad() {
        Edge.of(11, "BAD: it is in it, too.");
        WorkOrders none = new WorkOrders();
        Edge.refuses("without WORKS", none, BAD, none::next, 0, 1, -1);
        WorkOrders x = Edge.of(1, 1, 1);
        Edge.refuses("not a WORK", x, BAD, x::next, Edge.beside(0, 2));
        x.next(2);
        Edge.refuses("the one told", x, BAD, x::next, 2);
        x.next(0);
        Edge.refuses("the first and the last one told", x, BAD, x::next, 2, 0);
        x.next(1);
        Edge.refuses("all are told", x, BAD, x::next, 0, 1, 2);
        Edge.refuses("not a WORK, all are told", x, BAD, x::next, Edge.beside(0, 2));
        x.work(1);
        Edge.is("a new WORK", x.next(3), 4);
        x.anew();
        Edge.is("it is no more in it", x.next(2), 1);
    }

    private static void anew() {
        Edge.of(12, "THE TOLD ORDER is empty: how many.");
        WorkOrders x = new WorkOrders();
        Edge.is("without WORKS", x.anew(), 0);
        for (int many = 0; many <= 8; many++) {
            for (int i = 0; i < many; i++) {
                x.next(i);
            }
            Edge.is("of " + many, x.anew(), many);
            Edge.is("count(1)", x.count(1), 0);
            Edge.is("it was empty", x.anew(), 0);
            x.work(1);
        }
        Edge.is("the WORKS stay", x.count(0), 8);
    }

    private static void judgeOneBench() {
        Edge.of(13, "What THE TOLD ORDER makes by an AIM on one bench (0 .. 4),");
        WorkOrders none = new WorkOrders();
        for (int aim = 0; aim < 5; aim++) {
            Edge.is("without WORKS, by " + aim, none.judge(aim), 0);
        }
        WorkOrders x = Edge.of(40, 1);
        Edge.putAll(x, COMES, 99, 0);
        Edge.putAll(x, DUE, 138, 1);
        Edge.putAll(x, WEIGHT, 20, 0);
        Edge.putAll(x, TOOL, 2, 0);
        x.change(0, 2, 20);
        x.change(2, 0, 20);
        // 1 at 1, as it is DUE; 0 from 99 to 139.
        int[] first = {139, 20 * 139, 20, 1, 20};
        // 0 from 99 to 139, CHANGE till 159, 1 at 160.
        int[] last = {160, 20 * 139, 20, 159, 20};
        for (int aim = 0; aim < 5; aim++) {
            Edge.is("1 0 by " + aim, Edge.judged(x, aim, 1, 0), first[aim]);
            Edge.is("0 1 by " + aim, Edge.judged(x, aim, 0, 1), last[aim]);
        }
    }

    private static void judgeRow() {
        Edge.of(13, "its last END in the row of benches (5).");
        Edge.is("without WORKS", new WorkOrders().judge(5), 0);
        WorkOrders x = Edge.of(3, 5);
        x.needs(0, 1, 10);
        x.needs(1, 1, 2);
        x.needs(0, 2, 40);
        x.needs(1, 3, 40);
        Edge.is("0 1 on two", Edge.judged(x, 5, 0, 1), 3 + 10 + 2);
        Edge.is("1 0 on two", Edge.judged(x, 5, 1, 0), 5 + 3 + 10);
        x.benches(3);
        Edge.is("0 1 on three", Edge.judged(x, 5, 0, 1), 3 + 10 + 40 + 1);
        x.benches(4);
        Edge.is("0 1 on four", Edge.judged(x, 5, 0, 1), 3 + 10 + 40 + 1 + 40);
        Edge.putAll(x, COMES, 99, 99);
        Edge.is("COMES is not looked at", Edge.judged(x, 5, 0, 1), 94);
    }

    private static void judgeBad() {
        Edge.of(13, "BAD: -10;");
        WorkOrders none = new WorkOrders();
        Edge.refuses("without WORKS", none, -10, none::judge, Edge.beside(0, 5));
        WorkOrders x = Edge.of(1, 1);
        Edge.refuses("not all are in it", x, -10, x::judge, Edge.beside(0, 5));
        x.next(0);
        x.next(1);
        Edge.refuses("all are in it", x, -10, x::judge, Edge.beside(0, 5));
        x.ahead(1, 0, true);
        Edge.refuses("one is ahead of what must be ahead of it", x, -10, x::judge, Edge.beside(0, 5));
    }

    private static void judgeNotAll() {
        Edge.of(13, "NO: -20: not all WORKS are in it,");
        WorkOrders x = Edge.eight(1);
        for (int i = 0; i < 8; i++) {
            Edge.refuses("with " + i + " of 8", x, -20, x::judge, 0, 1, 2, 3, 4, 5);
            x.next(7 - i);
        }
        Edge.is("with all", x.judge(0), 8);
        Edge.is("with all, in the row", x.judge(5), 9);
        x.anew();
        Edge.refuses("with none again", x, -20, x::judge, 0, 1, 2, 3, 4, 5);
        WorkOrders y = Edge.of(1);
        y.next(0);
        Edge.is("with all", y.judge(0), 1);
        y.work(1);
        Edge.refuses("a WORK more", y, -20, y::judge, 0, 1, 2, 3, 4, 5);
    }

    private static void judgeAhead() {
        Edge.of(13, "or (0 .. 4) one is ahead of what must be ahead of it.");
        WorkOrders x = Edge.of(1, 1, 1);
        x.ahead(2, 1, true);
        x.ahead(1, 0, true);
        int[][] wrong = {{0, 1, 2}, {0, 2, 1}, {1, 0, 2}, {1, 2, 0}, {2, 0, 1}};
        for (int[] order : wrong) {
            Edge.judged(x, 5, order);
            Edge.refuses("an ORDER that begins with " + order[0], x, -20, x::judge, 0, 1, 2, 3, 4);
            Edge.is("in the row it may be", x.judge(5), 4);
        }
        int[] makes = {3, 6, 0, 0, 0, 4};
        for (int aim = 0; aim < 6; aim++) {
            Edge.is("2 1 0 by " + aim, Edge.judged(x, aim, 2, 1, 0), makes[aim]);
        }
        WorkOrders y = Edge.of(1, 1, 1);
        y.ahead(0, 2, true);
        Edge.is("ahead of it, not just ahead", Edge.judged(y, 0, 0, 1, 2), 3);
        Edge.is("behind it, not just behind", Edge.judged(y, 0, 2, 1, 0), -20);
        x.ahead(2, 1, false);
        Edge.is("no more ahead", Edge.judged(x, 0, 1, 0, 2), 3);
        Edge.is("the other one still is", Edge.judged(x, 0, 0, 1, 2), -20);
        Edge.is("best keeps to it", x.best(0, NONE), 3);
    }
}
