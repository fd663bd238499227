/** The sentences on an object, on WORKS and on what is told of them; promises 1 to 5. */
final class EdgesOfWorks {
    private static final int NONE = WorkOrders.NONE, BAD = WorkOrders.BAD, NO = WorkOrders.NO, FULL = WorkOrders.FULL;
    private static final int LONG = 0, COMES = 1, DUE = 2, WEIGHT = 3, TOOL = 4;
    private static final int[] LEAST = {1, 0, 0, 0, 0}, MOST = {40, 99, 300, 20, 2}, FIRST = {9, 0, 300, 1, 0};

    static void all() {
        calls512();
        numbersAsTheyCome();
        lengths();
        comes();
        due();
        weight();
        neverRoundAbout();
        tools();
        changes();
        refusedTheFirstOf();
        newObject();
        work();
        workBad();
        workFull();
        put();
        putLeavesNeeds();
        putBad();
        ahead();
        aheadBad();
        aheadIsSo();
        aheadOtherWay();
        change();
        changeBad();
    }

    private static void calls512() {
        Edge.of(Edge.WHAT, "An object is used for at most 512 calls after it has been made");
        WorkOrders x = Edge.of(1, 2, 3, 4, 5, 6, 7, 8);
        for (int call = 9; call <= 512; call++) {
            Edge.is("best(1, NONE) as call " + call, x.best(1, NONE), 1 + 3 + 6 + 10 + 15 + 21 + 28 + 36);
        }
        x = new WorkOrders();
        for (int call = 1; call < 512; call++) {
            Edge.is("work(0) as call " + call, x.work(0), BAD);
        }
        Edge.is("work(1) as call 512", x.work(1), 0);
        x = new WorkOrders();
        int was = 2;
        for (int call = 1; call <= 512; call++) {
            Edge.is("likes as call " + call, x.likes(call % 4 + 1), was);
            was = call % 4 + 1;
        }
    }

    private static void numbersAsTheyCome() {
        Edge.of(Edge.TERMS, "7, as they come:");
        WorkOrders x = new WorkOrders();
        for (int i = 0; i < 8; i++) {
            Edge.refuses("put of a WORK that has not come", x, BAD, v -> x.put(v, WEIGHT, 1), i, i + 1, 7, 8);
            Edge.is("work", x.work(8 - i), i);
            Edge.is("LONG of it", x.put(i, LONG, 8 - i), 8 - i);
        }
        Edge.is("there is no 8", x.put(8, LONG, 1), BAD);
    }

    private static void lengths() {
        Edge.of(Edge.TERMS, "LONG (1 .. 40)");
        WorkOrders x = new WorkOrders();
        Edge.is("the least", x.work(1), 0);
        Edge.is("the greatest", x.work(40), 1);
        Edge.is("both", x.best(0, NONE), 41);
        Edge.is("1 becomes 40", x.put(0, LONG, 40), 1);
        Edge.is("both", x.best(0, NONE), 80);
        Edge.is("40 becomes 1", x.put(1, LONG, 1), 40);
        Edge.refuses("work", x, BAD, x::work, Edge.beside(1, 40));
        Edge.refuses("put", x, BAD, v -> x.put(1, LONG, v), Edge.beside(1, 40));
    }

    private static void comes() {
        Edge.of(Edge.TERMS, "COMES (0 .. 99; 0 at first)");
        WorkOrders x = Edge.of(40, 1);
        Edge.is("at first it is there", x.best(0, NONE), 41);
        Edge.is("0 at first", x.put(0, COMES, 99), 0);
        Edge.is("the greatest", x.best(0, NONE), 139);
        Edge.is("the least", x.put(0, COMES, 0), 99);
        Edge.is("the least", x.best(0, NONE), 41);
        Edge.refuses("put", x, BAD, v -> x.put(0, COMES, v), Edge.beside(0, 99));
    }

    private static void due() {
        Edge.of(Edge.TERMS, "DUE (0 .. 300; 300)");
        WorkOrders x = Edge.eight(40);
        Edge.is("300 at first: the last ENDS at 320", x.best(3, NONE), 20);
        Edge.is("300 at first", x.put(7, DUE, 0), 300);
        Edge.is("the least: LATE from its first minute", Edge.judged(x, 3, 0, 1, 2, 3, 4, 5, 6, 7), 320);
        Edge.is("the greatest", x.put(7, DUE, 300), 0);
        Edge.is("the greatest", Edge.judged(x, 3, 0, 1, 2, 3, 4, 5, 6, 7), 20);
        Edge.refuses("put", x, BAD, v -> x.put(7, DUE, v), Edge.beside(0, 300));
    }

    private static void weight() {
        Edge.of(Edge.TERMS, "WEIGHT (0 .. 20; 1)");
        WorkOrders x = Edge.of(5);
        x.put(0, DUE, 2);
        int[] ofOne = {5, 5, 3, 3, 1}, ofNone = {5, 0, 0, 3, 0}, ofMost = {5, 100, 60, 3, 20};
        for (int aim = 0; aim < 5; aim++) {
            Edge.is("at first, by " + aim, x.best(aim, NONE), ofOne[aim]);
        }
        Edge.is("1 at first", x.put(0, WEIGHT, 0), 1);
        for (int aim = 0; aim < 5; aim++) {
            Edge.is("the least, by " + aim, x.best(aim, NONE), ofNone[aim]);
        }
        Edge.is("0 becomes 20", x.put(0, WEIGHT, 20), 0);
        for (int aim = 0; aim < 5; aim++) {
            Edge.is("the greatest, by " + aim, x.best(aim, NONE), ofMost[aim]);
        }
        Edge.refuses("put", x, BAD, v -> x.put(0, WEIGHT, v), Edge.beside(0, 20));
    }

    private static void neverRoundAbout() {
        Edge.of(Edge.TERMS, "AHEAD: a WORK may have to be done ahead of another one (round about never: such are refused).");
        WorkOrders x = Edge.eight(1);
        for (int i = 0; i < 7; i++) {
            Edge.is(i + " ahead of the next", x.ahead(i, i + 1, true), 1);
        }
        for (int a = 1; a < 8; a++) {
            int later = a;
            for (int b = 0; b < a; b++) {
                Edge.refuses(a + " ahead of", x, NO, v -> x.ahead(later, v, true), b);
            }
        }
        // The chain is cut in its middle: then its end may be ahead of its beginning, and the cut can't be mended.
        Edge.is("a link goes", x.ahead(3, 4, false), 1);
        Edge.is("the last ahead of the first", x.ahead(7, 0, true), 1);
        Edge.refuses("the link again", x, NO, v -> x.ahead(v, 4, true), 3);
    }

    private static void tools() {
        Edge.of(Edge.TERMS, "TOOLS 0 .. 2 of a WORK (0 at first)");
        WorkOrders x = Edge.of(1, 1);
        x.change(0, 2, 5);
        x.change(2, 0, 5);
        Edge.is("both have TOOL 0 at first", x.best(0, NONE), 2);
        Edge.is("0 at first", x.put(1, TOOL, 2), 0);
        Edge.is("the greatest: a CHANGE", x.best(0, NONE), 7);
        Edge.is("2 becomes 0", x.put(1, TOOL, 0), 2);
        Edge.is("the least: no CHANGE", x.best(0, NONE), 2);
        Edge.refuses("put", x, BAD, v -> x.put(1, TOOL, v), Edge.beside(0, 2));
    }

    private static void changes() {
        Edge.of(Edge.TERMS, ": a CHANGE from a TOOL to another one takes so long (0 .. 20; 0);");
        WorkOrders x = Edge.of(1, 1);
        for (int from = 0; from < 3; from++) {
            for (int to = 0; to < 3; to++) {
                if (from != to) {
                    oneChange(x, from, to);
                }
            }
        }
    }

    private static void oneChange(WorkOrders x, int from, int to) {
        String name = "from " + from + " to " + to + ": ";
        Edge.putAll(x, TOOL, from, to);
        Edge.is(name + "it takes 0 at first", Edge.judged(x, 0, 0, 1), 2);
        Edge.is(name + "0 at first", x.change(from, to, 20), 0);
        Edge.is(name + "the greatest", Edge.judged(x, 0, 0, 1), 22);
        Edge.is(name + "the way back takes 0", Edge.judged(x, 0, 1, 0), 2);
        Edge.is(name + "the least", x.change(from, to, 0), 20);
        Edge.is(name + "the least", Edge.judged(x, 0, 0, 1), 2);
        Edge.refuses(name + "change", x, BAD, v -> x.change(from, to, v), Edge.beside(0, 20));
    }

    private static void refusedTheFirstOf() {
        Edge.of(Edge.TERMS,
                "Refused, changing nothing, the first of: BAD -2 a number is not as told; NO -3 as told; FULL -4.");
        WorkOrders x = Edge.eight(1);
        Edge.refuses("FULL, but BAD: work", x, -2, x::work, 0, 41);
        Edge.refuses("FULL: work", x, -4, x::work, 1, 40);
        x.ahead(0, 1, true);
        Edge.refuses("BAD ahead of NO: alike, and not so", x, -2, v -> x.ahead(v, v, false), 0, 1, 7, 8, -1);
        Edge.refuses("NO: it is so", x, -3, v -> x.ahead(v, 1, true), 0);
        for (int i = 0; i < 6; i++) {
            x.step(0, 5, 20);
        }
        Edge.refuses("FULL, but BAD: bench", x, -2, v -> x.step(0, v, 1), -1, 6);
        Edge.refuses("FULL, but BAD: minutes", x, -2, v -> x.step(0, 0, v), 0, 21);
        Edge.refuses("FULL, but BAD: which", x, -2, v -> x.step(v, 0, 1), -1, 2);
        Edge.refuses("FULL: step", x, -4, v -> x.step(0, v, 1), 0, 5);
        for (int i = 0; i < 12; i++) {
            x.leaf(NONE);
        }
        Edge.refuses("FULL, but BAD: leaf", x, -2, x::leaf, -2, 12);
        Edge.refuses("FULL: leaf", x, -4, x::leaf, -1, 0, 11);
        Edge.refuses("BAD ahead of NO: judge", x, -10, x::judge, -1, 6);
        Edge.refuses("NO: judge", x, -20, x::judge, 0, 5);
    }

    private static void newObject() {
        Edge.of(1, "As told; nothing is there.");
        WorkOrders x = new WorkOrders();
        for (int what = 0; what < 5; what++) {
            Edge.is("count(" + what + ")", x.count(what), 0);
        }
        Edge.is("anew()", x.anew(), 0);
        Edge.is("clear()", x.clear(), 0);
        Edge.is("fell()", x.fell(), 0);
        Edge.refuses("next", x, BAD, x::next, 0, -1);
        Edge.refuses("put", x, BAD, v -> x.put(v, LONG, 1), 0, -1);
        Edge.refuses("needs", x, BAD, v -> x.needs(v, 0, 1), 0, -1);
        Edge.refuses("ahead", x, BAD, v -> x.ahead(v, 1, true), 0, -1);
        Edge.refuses("leaf", x, BAD, x::leaf, 0);
        Edge.refuses("best", x, -10, v -> x.best(0, v), 0);
        Edge.refuses("lastFirst", x, -10, x::lastFirst, 0);
        Edge.refuses("byRule", x, -10, x::byRule, 0);
        Edge.refuses("bestRow", x, -10, x::bestRow, 0);
        Edge.refuses("levels", x, -10, x::levels, 0);
        Edge.is("likes", x.likes(2), 2);
        Edge.is("benches", x.benches(2), 2);
        for (int bench = 1; bench < 4; bench++) {
            Edge.is("way(" + bench + ")", x.way(bench, 9), 9);
        }
        WorkOrders other = Edge.of(1, 2);
        other.benches(4);
        Edge.is("nothing comes from another object", new WorkOrders().digest(), x.digest());
    }

    private static void work() {
        Edge.of(2, "A WORK: its number.");
        WorkOrders x = new WorkOrders();
        Edge.is("the first", x.work(40), 0);
        Edge.is("the second", x.work(40), 1);
        x.work(0);
        Edge.is("a refused one takes no number", x.work(1), 2);
        Edge.is("count", x.count(0), 3);
    }

    private static void workBad() {
        Edge.of(2, "BAD; ");
        WorkOrders x = new WorkOrders();
        Edge.refuses("work", x, BAD, x::work, Edge.beside(1, 40));
        x.work(1);
        Edge.refuses("work behind one", x, BAD, x::work, Edge.beside(1, 40));
    }

    private static void workFull() {
        Edge.of(2, "FULL: 8.");
        WorkOrders x = Edge.of(1, 2, 3, 4, 5, 6, 7);
        Edge.is("an eighth", x.work(8), 7);
        Edge.refuses("a ninth", x, FULL, x::work, 1, 8, 40);
        x.anew();
        x.fell();
        x.clear();
        Edge.refuses("a ninth, as nothing else makes room", x, FULL, x::work, 1);
    }

    private static void put() {
        Edge.of(3, "LONG (0), COMES (1), DUE (2), WEIGHT (3), TOOL (4) of a WORK is another one: what it was.");
        WorkOrders x = Edge.of(9, 9, 9);
        for (int what = 0; what < 5; what++) {
            Edge.is("at first of " + what, x.put(1, what, LEAST[what]), FIRST[what]);
            Edge.is("the least of " + what, x.put(1, what, MOST[what]), LEAST[what]);
            Edge.is("the greatest of " + what, x.put(1, what, MOST[what]), MOST[what]);
        }
        for (int what = 0; what < 5; what++) {
            Edge.is("it stayed: " + what, x.put(1, what, MOST[what]), MOST[what]);
            Edge.is("of the WORK ahead: " + what, x.put(0, what, FIRST[what]), FIRST[what]);
            Edge.is("of the WORK behind: " + what, x.put(2, what, FIRST[what]), FIRST[what]);
        }
    }

    private static void putLeavesNeeds() {
        Edge.of(3, "(LONG leaves what it needs in ROWS.)");
        WorkOrders x = Edge.of(9);
        x.put(0, LONG, 40);
        Edge.is("in the row", x.bestRow(NONE), 10);
        Edge.is("on one bench", x.best(0, NONE), 40);
        Edge.is("needs on bench 0", x.needs(0, 0, 9), 9);
        for (int bench = 1; bench < 4; bench++) {
            Edge.is("needs on bench " + bench, x.needs(0, bench, 1), 1);
        }
    }

    private static void putBad() {
        Edge.of(3, " BAD.");
        WorkOrders x = Edge.of(9, 9);
        for (int what = 0; what < 5; what++) {
            int trait = what;
            Edge.refuses("a WORK, of " + what, x, BAD, v -> x.put(v, trait, LEAST[trait]), -1, 2, 8, 32, 256);
            Edge.refuses("v of " + what, x, BAD, v -> x.put(1, trait, v), LEAST[what] - 1, MOST[what] + 1);
        }
        Edge.refuses("a WORK", x, BAD, v -> x.put(v, WEIGHT, 1), Edge.beside(0, 1));
        Edge.refuses("what", x, BAD, v -> x.put(0, v, 1), Edge.beside(0, 4));
        // What is as told for one is not for another one.
        Edge.refuses("LONG of 0", x, BAD, v -> x.put(0, v, 0), LONG);
        Edge.refuses("more than WEIGHT and TOOL", x, BAD, v -> x.put(0, v, 21), WEIGHT, TOOL);
        Edge.refuses("more than LONG, WEIGHT, TOOL", x, BAD, v -> x.put(0, v, 41), LONG, WEIGHT, TOOL);
        Edge.refuses("more than all but DUE", x, BAD, v -> x.put(0, v, 100), LONG, COMES, WEIGHT, TOOL);
    }

    private static void ahead() {
        Edge.of(4, "WORK a AHEAD of b, or no more: 1.");
        WorkOrders x = Edge.of(1, 1);
        Edge.is("the last ahead of the first", x.ahead(1, 0, true), 1);
        Edge.row("best", i -> x.best(0, i), 2, 1, 0);
        Edge.is("no more", x.ahead(1, 0, false), 1);
        Edge.row("best", i -> x.best(0, i), 2, 0, 1);
        Edge.is("again", x.ahead(1, 0, true), 1);
        Edge.is("no more again", x.ahead(1, 0, false), 1);
        Edge.is("now the other way", x.ahead(0, 1, true), 1);
    }

    private static void aheadBad() {
        Edge.of(4, "BAD: alike, too;");
        WorkOrders x = Edge.of(1, 1, 1);
        x.ahead(0, 1, true);
        for (boolean is : new boolean[] {true, false}) {
            Edge.refuses("alike", x, BAD, v -> x.ahead(v, v, is), 0, 1, 2);
            Edge.refuses("a", x, BAD, v -> x.ahead(v, 1, is), Edge.beside(0, 2));
            Edge.refuses("b", x, BAD, v -> x.ahead(0, v, is), Edge.beside(0, 2));
            Edge.refuses("both, alike", x, BAD, v -> x.ahead(v, v, is), Edge.beside(0, 2));
        }
    }

    private static void aheadIsSo() {
        Edge.of(4, "NO: it is so");
        WorkOrders x = Edge.of(1, 1, 1);
        Edge.refuses("no more, as it is not", x, NO, v -> x.ahead(0, v, false), 1, 2);
        x.ahead(0, 1, true);
        x.ahead(1, 2, true);
        Edge.refuses("told again", x, NO, v -> x.ahead(v, v + 1, true), 0, 1);
        Edge.refuses("by others alone it is not told: it can't be no more", x, NO, v -> x.ahead(0, v, false), 2);
        Edge.is("by others alone it is not told: it may be", x.ahead(0, 2, true), 1);
        Edge.refuses("now it is so", x, NO, v -> x.ahead(0, v, true), 2);
        Edge.is("no more", x.ahead(0, 2, false), 1);
        Edge.refuses("no more twice", x, NO, v -> x.ahead(0, v, false), 2);
    }

    private static void aheadOtherWay() {
        Edge.of(4, ", or b is AHEAD of a, by others too.");
        WorkOrders x = Edge.of(1, 1, 1, 1);
        // Told from behind, so that no chain is found by going up the numbers once.
        x.ahead(3, 2, true);
        Edge.refuses("b ahead of a", x, NO, v -> x.ahead(2, v, true), 3);
        Edge.refuses("b ahead of a, no more", x, NO, v -> x.ahead(2, v, false), 3);
        x.ahead(2, 1, true);
        Edge.refuses("by one other", x, NO, v -> x.ahead(1, v, true), 3, 2);
        x.ahead(1, 0, true);
        Edge.refuses("by two others", x, NO, v -> x.ahead(0, v, true), 3, 2, 1);
        Edge.refuses("by two others, no more", x, NO, v -> x.ahead(0, v, false), 3, 2, 1);
        x.ahead(2, 1, false);
        Edge.is("as the others are no more", x.ahead(0, 3, true), 1);
    }

    private static void change() {
        Edge.of(5, "A CHANGE of TOOLS: what it was.");
        WorkOrders x = new WorkOrders();
        int v = 0;
        for (int from = 0; from < 3; from++) {
            for (int to = 0; to < 3; to++) {
                if (from != to) {
                    v++;
                    Edge.is("at first", x.change(from, to, v), 0);
                }
            }
        }
        for (int from = 2; from >= 0; from--) {
            for (int to = 2; to >= 0; to--) {
                if (from != to) {
                    Edge.is("each is its own", x.change(from, to, 20), v);
                    v--;
                }
            }
        }
    }

    private static void changeBad() {
        Edge.of(5, "BAD: alike, too.");
        WorkOrders x = new WorkOrders();
        Edge.refuses("alike", x, BAD, v -> x.change(v, v, 0), 0, 1, 2, 3, -1);
        Edge.refuses("from", x, BAD, v -> x.change(v, 1, 1), Edge.beside(0, 2));
        Edge.refuses("to", x, BAD, v -> x.change(1, v, 1), Edge.beside(0, 2));
        Edge.refuses("v", x, BAD, v -> x.change(1, 2, v), Edge.beside(0, 20));
    }
}
