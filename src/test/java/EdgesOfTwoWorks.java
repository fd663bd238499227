/** The sentences on TWO WORKS; promises 21 to 23. */
final class EdgesOfTwoWorks {
    private static final int BAD = WorkOrders.BAD, FULL = WorkOrders.FULL;

    static void all() {
        benches();
        upToSix();
        asTheyCome();
        goesOnOrWaits();
        neverBoth();
        within();
        fewest();
        step();
        stepBad();
        stepFull();
        clear();
        walk();
    }

    private static WorkOrders of(int[] first, int[] second) {
        WorkOrders x = new WorkOrders();
        for (int i = 0; i + 1 < first.length; i += 2) {
            Edge.taken(x.step(0, first[i], first[i + 1]));
        }
        for (int i = 0; i + 1 < second.length; i += 2) {
            Edge.taken(x.step(1, second[i], second[i + 1]));
        }
        return x;
    }

    private static int[] s(int... steps) {
        return steps;
    }

    private static void benches() {
        Edge.of(Edge.TERMS, "TWO WORKS through benches 0 .. 5:");
        for (int a = 0; a < 6; a++) {
            for (int b = 0; b < 6; b++) {
                WorkOrders x = new WorkOrders();
                Edge.is("bench " + a, x.step(0, a, 4), 1);
                Edge.is("bench " + b, x.step(1, b, 3), 1);
                Edge.is("walk on " + a + " and " + b, x.walk(), a == b ? 7 : 4);
            }
        }
        WorkOrders x = new WorkOrders();
        Edge.refuses("bench", x, BAD, v -> x.step(0, v, 1), Edge.beside(0, 5));
        Edge.refuses("bench", x, BAD, v -> x.step(1, v, 1), Edge.beside(0, 5));
    }

    private static void upToSix() {
        Edge.of(Edge.TERMS, "up to 6 STEPS each,");
        WorkOrders x = new WorkOrders();
        for (int i = 1; i <= 6; i++) {
            Edge.is("the first", x.step(0, i - 1, 1), i);
            Edge.is("the second", x.step(1, 6 - i, 1), i);
        }
        Edge.refuses("a seventh", x, FULL, v -> x.step(v, 0, 1), 0, 1);
        Edge.is("they meet nowhere", x.walk(), 6);
    }

    private static void asTheyCome() {
        Edge.of(Edge.TERMS, "as they come (bench, 1 .. 20).");
        // By the order of STEPS they meet on bench 0, or don't.
        Edge.is("0 1 and 0 1", of(s(0, 3, 1, 3), s(0, 3, 1, 3)).walk(), 9);
        Edge.is("0 1 and 1 0", of(s(0, 3, 1, 3), s(1, 3, 0, 3)).walk(), 6);
        Edge.is("the least", of(s(0, 1), s()).walk(), 1);
        Edge.is("the greatest", of(s(0, 20), s()).walk(), 20);
        WorkOrders x = new WorkOrders();
        Edge.refuses("minutes", x, BAD, v -> x.step(0, 0, v), Edge.beside(1, 20));
        Edge.refuses("minutes", x, BAD, v -> x.step(1, 5, v), Edge.beside(1, 20));
    }

    private static void goesOnOrWaits() {
        Edge.of(Edge.TERMS, "THE WALK: minute by minute each goes on or waits:");
        Edge.is("none waits", of(s(0, 5, 1, 3), s(1, 4, 0, 2)).walk(), 8);
        Edge.is("one waits a minute", of(s(0, 5, 1, 3), s(1, 6, 0, 2)).walk(), 9);
        // It may wait within a STEP too, but need not go back.
        Edge.is("one waits for all of the other", of(s(2, 20), s(2, 20)).walk(), 40);
    }

    private static void neverBoth() {
        Edge.of(Edge.TERMS, "never both are at work on one bench,");
        Edge.is("a minute each", of(s(0, 1), s(0, 1)).walk(), 2);
        Edge.is("six minutes each", of(s(3, 1, 3, 1, 3, 1, 3, 1, 3, 1, 3, 1), s(3, 1, 3, 1, 3, 1, 3, 1, 3, 1, 3, 1)).walk(), 12);
        Edge.is("one behind the other", of(s(0, 1, 1, 1, 2, 1), s(0, 1, 1, 1, 2, 1)).walk(), 4);
    }

    private static void within() {
        Edge.of(Edge.TERMS,
                "and as one is within a STEP (begun, not done) the other is not within one of that bench:");
        for (int bench = 0; bench < 6; bench++) {
            within(bench, (bench + 1) % 6, (bench + 2) % 6);
        }
        Edge.is("not begun: it may be done first", of(s(0, 20), s(0, 1, 1, 20)).walk(), 21);
        Edge.is("done: it is free", of(s(0, 1, 1, 20), s(0, 20)).walk(), 21);
    }

    /** One needs bench b from 2 on, for a minute, then has 15 to go; the other needs it for 20 in all. */
    private static void within(int b, int c, int d) {
        String on = ", on " + b;
        int[] minute = s(c, 2, b, 1, d, 15);
        int[] twoMinutes = s(c, 2, b, 2, d, 15);
        Edge.is("between two STEPS at 2: it waits a minute" + on, of(s(b, 2, b, 18), minute).walk(), 21);
        Edge.is("within its STEP at 2: it can't begin till 3" + on, of(s(b, 20), minute).walk(), 23);
        Edge.is("a STEP of two minutes: not till 4" + on, of(s(b, 20), twoMinutes).walk(), 24);
        Edge.is("the second between two" + on, of(minute, s(b, 2, b, 18)).walk(), 21);
        Edge.is("the second within one" + on, of(minute, s(b, 20)).walk(), 23);
        Edge.is("the second within one, of two minutes" + on, of(twoMinutes, s(b, 20)).walk(), 24);
        // Both wait at their own benches: a STEP that is begun holds no other bench.
        Edge.is("within STEPS of two benches" + on, of(s(b, 20, c, 3), s(c, 17, d, 20)).walk(), 37);
    }

    private static void fewest() {
        Edge.of(Edge.TERMS, "the fewest minutes till both are done.");
        Edge.is("none has STEPS", new WorkOrders().walk(), 0);
        Edge.is("the first alone", of(s(0, 20, 1, 20), s()).walk(), 40);
        Edge.is("the second alone", of(s(), s(0, 20, 1, 20)).walk(), 40);
        Edge.is("the longer one", of(s(0, 20), s(1, 19)).walk(), 20);
        Edge.is("the longer one", of(s(0, 19), s(1, 20)).walk(), 20);
        // To let the second go first is 1 + 20; to go first oneself is 20 + 1 + 19.
        Edge.is("which waits is chosen", of(s(0, 20), s(0, 1, 1, 19)).walk(), 21);
    }

    private static void step() {
        Edge.of(21, "A STEP of one of TWO WORKS (0, 1): how many it has.");
        WorkOrders x = new WorkOrders();
        Edge.is("of 0", x.step(0, 0, 1), 1);
        Edge.is("of 1", x.step(1, 0, 1), 1);
        Edge.is("of 1", x.step(1, 0, 1), 2);
        Edge.is("of 0", x.step(0, 0, 1), 2);
        Edge.is("count(2)", x.count(2), 2);
        Edge.is("count(3)", x.count(3), 2);
    }

    private static void stepBad() {
        Edge.of(21, "BAD;");
        WorkOrders x = new WorkOrders();
        Edge.refuses("which", x, BAD, v -> x.step(v, 0, 1), Edge.beside(0, 1));
        for (int one = 0; one < 2; one++) {
            int which = one;
            Edge.refuses("bench", x, BAD, v -> x.step(which, v, 20), Edge.beside(0, 5));
            Edge.refuses("minutes", x, BAD, v -> x.step(which, 5, v), Edge.beside(1, 20));
        }
        Edge.is("nothing came", x.walk(), 0);
    }

    private static void stepFull() {
        Edge.of(21, "FULL: 6.");
        for (int one = 0; one < 2; one++) {
            int which = one;
            WorkOrders x = new WorkOrders();
            for (int i = 1; i <= 6; i++) {
                Edge.is("step " + i, x.step(which, 0, 20), i);
            }
            Edge.refuses("a seventh", x, FULL, v -> x.step(which, v, 1), 0, 5);
            Edge.is("the other has room", x.step(1 - which, 0, 20), 1);
            x.clear();
            Edge.is("there is room again", x.step(which, 0, 1), 1);
        }
    }

    private static void clear() {
        Edge.of(22, "All STEPS go: how many.");
        WorkOrders x = new WorkOrders();
        Edge.is("none", x.clear(), 0);
        long empty = x.digest();
        for (int i = 0; i < 6; i++) {
            x.step(0, i, 20);
            x.step(1, i, 20);
        }
        Edge.is("all", x.clear(), 12);
        Edge.is("digest()", x.digest(), empty);
        Edge.is("walk()", x.walk(), 0);
        Edge.is("none again", x.clear(), 0);
        x.step(1, 0, 1);
        Edge.is("of the second alone", x.clear(), 1);
        x.step(0, 0, 1);
        Edge.is("of the first alone", x.clear(), 1);
    }

    private static void walk() {
        Edge.of(23, "THE WALK: the least last END.");
        int[] most = s(3, 20, 3, 20, 3, 20, 3, 20, 3, 20, 3, 20);
        Edge.is("the greatest of all", of(most, most).walk(), 240);
        Edge.is("the greatest of one", of(most, s()).walk(), 120);
        int[] other = s(4, 20, 4, 20, 4, 20, 4, 20, 4, 20, 4, 20);
        Edge.is("at once", of(most, other).walk(), 120);
    }
}
