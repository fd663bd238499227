import java.math.BigInteger;
import java.util.ArrayList;
import java.util.List;

/** The sentences on count and digest; promises 29 and 30. */
final class EdgesOfCounts {
    private static final int BAD = WorkOrders.BAD;
    private static final int[] NO_CHANGES = {0, 0, 0, 0, 0, 0, 0, 0, 0};
    private static final int[] FIRST_ROW = {2, 9, 9, 9};
    private static final int[] NOTHING = {};

    static void all() {
        works();
        told();
        steps();
        shortWorks();
        countBad();
        wrapsAround();
        digestOfCounts();
        digestOfWorks();
        digestOfAhead();
        digestOfNeeds();
        digestOfChanges();
        digestOfTold();
        digestOfRow();
        digestOfSteps();
        digestOfTree();
        digestOfLikes();
    }

    private static int[] v(int... values) {
        return values;
    }

    /** The digest of values without wrap-around, cut to 64 bits at the end. */
    private static long h(int[]... parts) {
        BigInteger h = BigInteger.valueOf(401);
        for (int[] part : parts) {
            for (int value : part) {
                h = h.multiply(BigInteger.valueOf(31)).add(BigInteger.valueOf(value));
            }
        }
        return h.longValue();
    }

    private static void counts(WorkOrders x, int what) {
        for (int other = 0; other < 5; other++) {
            if (other != what) {
                Edge.is("count(" + other + ")", x.count(other), 0);
            }
        }
    }

    private static void works() {
        Edge.of(29, "How many: 0 WORKS,");
        WorkOrders x = new WorkOrders();
        for (int i = 0; i < 8; i++) {
            Edge.is("count(0)", x.count(0), i);
            x.work(1);
        }
        x.work(1);
        Edge.is("FULL", x.count(0), 8);
        counts(x, 0);
    }

    private static void told() {
        Edge.of(29, "1 of THE TOLD ORDER,");
        WorkOrders x = Edge.eight(1);
        for (int i = 0; i < 8; i++) {
            Edge.is("count(1)", x.count(1), i);
            x.next(i);
            x.next(i);
        }
        Edge.is("all", x.count(1), 8);
        x.anew();
        Edge.is("empty", x.count(1), 0);
    }

    private static void steps() {
        Edge.of(29, "2, 3 STEPS of both,");
        for (int which = 0; which < 2; which++) {
            WorkOrders x = new WorkOrders();
            for (int i = 0; i < 6; i++) {
                Edge.is("of " + which, x.count(2 + which), i);
                x.step(which, 0, 1);
            }
            x.step(which, 0, 1);
            Edge.is("FULL of " + which, x.count(2 + which), 6);
            counts(x, 2 + which);
            x.clear();
            Edge.is("none of " + which, x.count(2 + which), 0);
        }
    }

    private static void shortWorks() {
        Edge.of(29, "4 short WORKS.");
        WorkOrders x = new WorkOrders();
        for (int i = 0; i < 12; i++) {
            Edge.is("count(4)", x.count(4), i);
            x.leaf(-1);
        }
        x.leaf(-1);
        Edge.is("FULL", x.count(4), 12);
        counts(x, 4);
        x.fell();
        Edge.is("none", x.count(4), 0);
    }

    private static void countBad() {
        Edge.of(29, " BAD.");
        WorkOrders none = new WorkOrders();
        Edge.refuses("of nothing", none, BAD, none::count, Edge.beside(0, 4));
        WorkOrders x = Edge.eight(1);
        x.leaf(-1);
        Edge.refuses("of something", x, BAD, x::count, Edge.beside(0, 4));
    }

    private static void wrapsAround() {
        Edge.of(30, "h = 401; then h = 31 h + v for each v:");
        Edge.is("a new object", new WorkOrders().digest(), h(v(0, 0, 0, 0, 0), NO_CHANGES, FIRST_ROW, v(2)));
        // All that an object can hold: far more than 64 bits.
        WorkOrders x = Edge.eight(40);
        List<int[]> parts = new ArrayList<>(List.of(v(8, 8, 6, 6, 12)));
        for (int i = 0; i < 8; i++) {
            x.put(i, 1, 99);
            x.put(i, 2, 300);
            x.put(i, 3, 20);
            x.put(i, 4, 2);
            for (int b = 0; b < 4; b++) {
                x.needs(i, b, 40);
            }
            for (int a = 0; a < i; a++) {
                x.ahead(a, i, true);
            }
            x.next(i);
            parts.add(v(40, 99, 300, 20, 2, (1 << i) - 1, 40, 40, 40, 40));
        }
        parts.add(NO_CHANGES);
        parts.add(v(0, 1, 2, 3, 4, 5, 6, 7));
        parts.add(FIRST_ROW);
        for (int i = 0; i < 12; i++) {
            x.step(i / 6, 5, 20);
            parts.add(v(5, 20));
        }
        for (int i = 0; i < 12; i++) {
            x.leaf(i - 1);
            parts.add(v(i - 1));
        }
        parts.add(v(2));
        Edge.is("a full object", x.digest(), h(parts.toArray(new int[0][])));
    }

    private static void digestOfCounts() {
        Edge.of(30, "count(0) to count(4);");
        WorkOrders x = Edge.of(3, 4);
        x.next(1);
        x.step(1, 2, 3);
        x.leaf(-1);
        Edge.is("2 1 0 1 1", x.digest(), h(v(2, 1, 0, 1, 1), v(3, 0, 300, 1, 0, 0, 3, 1, 1, 1),
                v(4, 0, 300, 1, 0, 0, 4, 1, 1, 1), NO_CHANGES, v(1), FIRST_ROW, v(2, 3), v(-1), v(2)));
    }

    private static long withWork(int[] work) {
        return h(v(1, 0, 0, 0, 0), work, NO_CHANGES, FIRST_ROW, v(2));
    }

    private static void digestOfWorks() {
        Edge.of(30, "of WORKS LONG, COMES, DUE, WEIGHT, TOOL,");
        WorkOrders x = Edge.of(5);
        int[] work = {5, 0, 300, 1, 0, 0, 5, 1, 1, 1};
        int[][] values = {{1, 40}, {0, 99}, {0, 300}, {0, 20}, {0, 2}};
        Edge.is("at first", x.digest(), withWork(work));
        for (int what = 0; what < 5; what++) {
            for (int value : values[what]) {
                x.put(0, what, value);
                work[what] = value;
                Edge.is("put(0, " + what + ", " + value + ")", x.digest(), withWork(work));
            }
        }
    }

    private static void digestOfAhead() {
        Edge.of(30, "WORKS AHEAD of it as bits,");
        WorkOrders x = Edge.of(1, 1, 1);
        x.ahead(0, 1, true);
        x.ahead(1, 2, true);
        Edge.is("as told, without others", x.digest(), withAhead(0, 1, 2));
        x.ahead(0, 2, true);
        Edge.is("two ahead of 2", x.digest(), withAhead(0, 1, 3));
        x.ahead(1, 2, false);
        Edge.is("no more", x.digest(), withAhead(0, 1, 1));
    }

    private static long withAhead(int... bits) {
        int[][] parts = new int[bits.length + 4][];
        parts[0] = v(bits.length, 0, 0, 0, 0);
        for (int i = 0; i < bits.length; i++) {
            parts[i + 1] = v(1, 0, 300, 1, 0, bits[i], 1, 1, 1, 1);
        }
        parts[bits.length + 1] = NO_CHANGES;
        parts[bits.length + 2] = FIRST_ROW;
        parts[bits.length + 3] = v(2);
        return h(parts);
    }

    private static void digestOfNeeds() {
        Edge.of(30, "needs on 4 benches;");
        WorkOrders x = Edge.of(5);
        int[] work = {5, 0, 300, 1, 0, 0, 5, 1, 1, 1};
        for (int bench = 0; bench < 4; bench++) {
            x.needs(0, bench, 37 + bench);
            work[6 + bench] = 37 + bench;
            Edge.is("needs on " + bench + ", of two benches", x.digest(), withWork(work));
        }
    }

    private static void digestOfChanges() {
        Edge.of(30, "CHANGES by from, then to;");
        WorkOrders x = new WorkOrders();
        int[] changes = NO_CHANGES.clone();
        for (int from = 0; from < 3; from++) {
            for (int to = 0; to < 3; to++) {
                if (from != to) {
                    x.change(from, to, 1 + 3 * from + to);
                    changes[3 * from + to] = 1 + 3 * from + to;
                    Edge.is("from " + from + " to " + to, x.digest(), h(v(0, 0, 0, 0, 0), changes, FIRST_ROW, v(2)));
                }
            }
        }
    }

    private static void digestOfTold() {
        Edge.of(30, "THE TOLD ORDER;");
        WorkOrders x = Edge.of(1, 1);
        int[] work = {1, 0, 300, 1, 0, 0, 1, 1, 1, 1};
        int[][] orders = {{}, {1}, {1, 0}, {0}, {0, 1}};
        for (int[] order : orders) {
            Edge.judged(x, 0, order);
            Edge.is("of " + order.length, x.digest(),
                    h(v(2, order.length, 0, 0, 0), work, work, NO_CHANGES, order, FIRST_ROW, v(2)));
        }
    }

    private static void digestOfRow() {
        Edge.of(30, "benches, ways of 1 to 3;");
        WorkOrders x = new WorkOrders();
        int[] row = FIRST_ROW.clone();
        for (int benches = 2; benches <= 4; benches++) {
            x.benches(benches);
            row[0] = benches;
            Edge.is("benches " + benches, x.digest(), h(v(0, 0, 0, 0, 0), NO_CHANGES, row, v(2)));
        }
        x.benches(2);
        row[0] = 2;
        for (int bench = 1; bench < 4; bench++) {
            x.way(bench, bench - 1);
            row[bench] = bench - 1;
            Edge.is("the way ahead of " + bench, x.digest(), h(v(0, 0, 0, 0, 0), NO_CHANGES, row, v(2)));
        }
    }

    private static void digestOfSteps() {
        Edge.of(30, "STEPS of both bench, minutes;");
        WorkOrders x = new WorkOrders();
        x.step(1, 5, 20);
        Edge.is("one of the second", x.digest(), h(v(0, 0, 0, 1, 0), NO_CHANGES, FIRST_ROW, v(5, 20), v(2)));
        x.step(0, 0, 1);
        x.step(0, 4, 7);
        Edge.is("two of the first ahead of it", x.digest(),
                h(v(0, 0, 2, 1, 0), NO_CHANGES, FIRST_ROW, v(0, 1, 4, 7), v(5, 20), v(2)));
        x.clear();
        Edge.is("none", x.digest(), h(v(0, 0, 0, 0, 0), NO_CHANGES, FIRST_ROW, NOTHING, v(2)));
    }

    private static void digestOfTree() {
        Edge.of(30, "short WORKS on what they hang (NONE);");
        WorkOrders x = new WorkOrders();
        x.leaf(-1);
        x.leaf(0);
        x.leaf(-1);
        x.leaf(1);
        Edge.is("four", x.digest(), h(v(0, 0, 0, 0, 4), NO_CHANGES, FIRST_ROW, v(-1, 0, -1, 1), v(2)));
        x.fell();
        Edge.is("none", x.digest(), h(v(0, 0, 0, 0, 0), NO_CHANGES, FIRST_ROW, NOTHING, v(2)));
    }

    private static void digestOfLikes() {
        Edge.of(30, "LIKE BENCHES.");
        WorkOrders x = new WorkOrders();
        for (int n = 1; n <= 4; n++) {
            x.likes(n);
            Edge.is("likes(" + n + ")", x.digest(), h(v(0, 0, 0, 0, 0), NO_CHANGES, FIRST_ROW, v(n)));
        }
    }
}
