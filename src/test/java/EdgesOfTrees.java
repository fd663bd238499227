/** The sentences on a TREE of short WORKS; promises 24 to 28. */
final class EdgesOfTrees {
    private static final int NONE = WorkOrders.NONE, BAD = WorkOrders.BAD, FULL = WorkOrders.FULL;

    static void all() {
        asTheyCome();
        hangs();
        level();
        likeBenches();
        free();
        greatestLevel();
        likeOnes();
        asManyAsBenches();
        minutesSo();
        bySets();
        notSooner();
        cutUp();
        leaf();
        leafBad();
        leafFull();
        fell();
        likes();
        likesBad();
        levels();
        levelsOf();
        levelsBad();
        least();
        leastNotSooner();
        leastBad();
    }

    private static WorkOrders of(int... on) {
        WorkOrders x = new WorkOrders();
        for (int other : on) {
            Edge.taken(x.leaf(other));
        }
        return x;
    }

    private static WorkOrders chain() {
        return of(NONE, 0, 1, 2, 3, 4, 5, 6, 7, 8, 9, 10);
    }

    private static WorkOrders loose(int many) {
        WorkOrders x = new WorkOrders();
        for (int i = 0; i < many; i++) {
            x.leaf(NONE);
        }
        return x;
    }

    private static void asTheyCome() {
        Edge.of(Edge.TERMS, "A TREE of short WORKS 0 .. 11, as they come, each of one minute;");
        WorkOrders x = new WorkOrders();
        x.likes(1);
        for (int i = 0; i < 12; i++) {
            Edge.is("leaf", x.leaf(NONE), i);
            Edge.is("a minute each", x.levels(NONE), i + 1);
            Edge.is("a minute each", x.least(0), i + 1);
        }
        Edge.is("there is no 12", x.levels(12), -10);
    }

    private static void hangs() {
        Edge.of(Edge.TERMS, "each hangs on one told earlier (that must be done BEHIND it), or on none.");
        WorkOrders x = new WorkOrders();
        for (int i = 0; i < 12; i++) {
            Edge.refuses("on itself or later ones", x, BAD, x::leaf, i, i + 1, 12);
            Edge.is("on the one told just ahead, or on none", x.leaf(i - 1), i);
        }
        x.likes(4);
        for (int i = 0; i < 12; i++) {
            Edge.is("what it hangs on is done behind it", x.levels(i), 11 - i);
        }
        WorkOrders y = of(NONE, NONE);
        Edge.is("both hang on none", y.levels(NONE), 1);
    }

    private static void level() {
        Edge.of(Edge.TERMS, "LEVEL: 1 for one that hangs on none, else 1 more than that on which it hangs.");
        // On one bench the LEVELS fall minute by minute: 3 by its LEVEL 3, then 2, 5 of LEVEL 2, then 0, 1, 4.
        WorkOrders x = of(NONE, NONE, 1, 2, NONE, 0);
        x.likes(1);
        Edge.row("levels", x::levels, 6, 3, 4, 1, 0, 5, 2);
        Edge.is("LEVEL 12", chain().least(1), 12);
        Edge.is("LEVEL 1", of(NONE).least(1), 1);
    }

    private static void likeBenches() {
        Edge.of(Edge.TERMS, "LIKE BENCHES 1 .. 4 (2 at first).");
        WorkOrders x = loose(12);
        Edge.is("two at first", x.levels(NONE), 6);
        Edge.is("2 at first", x.likes(1), 2);
        int[] minutes = {12, 6, 4, 3};
        for (int n = 1; n <= 4; n++) {
            x.likes(n);
            Edge.is("levels on " + n, x.levels(NONE), minutes[n - 1]);
            Edge.is("least(0) on " + n, x.least(0), minutes[n - 1]);
            Edge.is("least(1) on " + n, x.least(1), minutes[n - 1]);
        }
        Edge.refuses("likes", x, BAD, x::likes, Edge.beside(1, 4));
    }

    private static void free() {
        Edge.of(Edge.TERMS, "BY LEVELS: each minute of those that are free (all that hang on them are done)");
        // 0 waits for 1, 2, 3; a free bench does not help it.
        WorkOrders x = of(NONE, 0, 0, 0);
        Edge.row("three hang on 0, two benches", x::levels, 3, 2, 0, 0, 1);
        x.likes(3);
        Edge.row("three benches", x::levels, 2, 1, 0, 0, 0);
        x.likes(4);
        Edge.row("four benches", x::levels, 2, 1, 0, 0, 0);
    }

    private static void greatestLevel() {
        Edge.of(Edge.TERMS, "those of the greatest LEVEL,");
        // The chain 2 1 0 goes first, whatever the numbers of the loose ones.
        WorkOrders x = of(NONE, 0, 1, NONE, NONE, NONE);
        x.likes(1);
        Edge.row("one bench", x::levels, 6, 2, 1, 0, 3, 4, 5);
        x.likes(2);
        Edge.row("two benches", x::levels, 3, 2, 1, 0, 0, 1, 2);
        WorkOrders y = of(NONE, NONE, NONE, 2, 3);
        Edge.row("the greatest number, the greatest LEVEL", y::levels, 3, 0, 1, 2, 1, 0);
    }

    private static void likeOnes() {
        Edge.of(Edge.TERMS, "of like ones the least numbers,");
        WorkOrders x = loose(12);
        x.likes(4);
        Edge.row("loose ones", x::levels, 3, 0, 0, 0, 0, 1, 1, 1, 1, 2, 2, 2, 2);
        WorkOrders y = of(NONE, NONE, NONE, 2, 1, 0);
        Edge.row("of LEVEL 2: 3, 4, 5", y::levels, 3, 2, 1, 2, 0, 0, 1);
    }

    private static void asManyAsBenches() {
        Edge.of(Edge.TERMS, "as many as there are benches.");
        int[][] minutes = {{0, 1, 2, 3, 4}, {0, 0, 1, 1, 2}, {0, 0, 0, 1, 1}, {0, 0, 0, 0, 1}};
        WorkOrders x = loose(5);
        for (int n = 1; n <= 4; n++) {
            x.likes(n);
            Edge.row("five on " + n, x::levels, minutes[n - 1][4] + 1, minutes[n - 1]);
        }
    }

    private static void minutesSo() {
        Edge.of(Edge.TERMS, "MINUTES so.");
        Edge.is("none", new WorkOrders().levels(NONE), 0);
        Edge.is("one", of(NONE).levels(NONE), 1);
        Edge.is("a chain of 12", chain().levels(NONE), 12);
        Edge.is("a chain of 3 with 3 more on its end", of(NONE, 0, 1, 2, 2, 2).levels(NONE), 5);
    }

    private static void bySets() {
        Edge.of(Edge.TERMS, "LEAST MINUTES by going over sets.");
        WorkOrders x = of(NONE, 0, 0, 0, 0, 0, 0, 0, 0, 0, 0, 0);
        int[] star = {12, 7, 5, 4};
        WorkOrders y = of(NONE, NONE, NONE, 0, 1, 2, 3, 4, 5, 6, 7, 8);
        int[] threeChains = {12, 6, 4, 4};
        WorkOrders z = chain();
        for (int n = 1; n <= 4; n++) {
            x.likes(n);
            y.likes(n);
            z.likes(n);
            Edge.is("eleven hang on one, on " + n, x.least(0), star[n - 1]);
            Edge.is("three chains of four, on " + n, y.least(0), threeChains[n - 1]);
            Edge.is("a chain of twelve, on " + n, z.least(0), 12);
        }
    }

    private static void notSooner() {
        Edge.of(Edge.TERMS,
                "CAN NOT BE SOONER: the greatest over levels l of l less 1 and WORKS of LEVEL l and above");
        // LEVELS 1 2 3 3 3 3 3: all 7 by 2 is 4, 6 and 1 is 4, 5 by 2 and 2 is 5.
        Edge.is("the greatest LEVEL makes it", of(NONE, 0, 1, 1, 1, 1, 1).least(1), 5);
        // LEVELS 1 2 2 2 2 2 3: 4; 1 + 3; 2 + 1.
        Edge.is("a LEVEL between makes it", of(NONE, 0, 0, 0, 0, 0, 5).least(1), 4);
        // Nine of LEVEL 1 and two above it: 11 by 2 is 6; 1 + 1.
        Edge.is("LEVEL 1 makes it",
                of(NONE, NONE, NONE, NONE, NONE, NONE, NONE, NONE, NONE, 0, 1).least(1), 6);
        Edge.is("a chain", chain().least(1), 12);
    }

    private static void cutUp() {
        Edge.of(Edge.TERMS, "by benches, cut up, together.");
        for (int many = 0; many <= 12; many++) {
            WorkOrders x = loose(many);
            for (int n = 1; n <= 4; n++) {
                x.likes(n);
                int minutes = many / n + (many % n == 0 ? 0 : 1);
                Edge.is(many + " by " + n, x.least(1), minutes);
                Edge.is(many + " by " + n + ", least(0)", x.least(0), minutes);
            }
        }
    }

    private static void leaf() {
        Edge.of(24, "A short WORK that hangs on another one (NONE: none): its number.");
        WorkOrders x = new WorkOrders();
        Edge.is("on none", x.leaf(-1), 0);
        Edge.is("on 0", x.leaf(0), 1);
        Edge.is("on 0 too", x.leaf(0), 2);
        x.leaf(3);
        Edge.is("a refused one takes no number", x.leaf(2), 3);
        Edge.is("on none again", x.leaf(-1), 4);
        Edge.is("count(4)", x.count(4), 5);
    }

    private static void leafBad() {
        Edge.of(24, "BAD;");
        for (int many = 0; many < 12; many++) {
            WorkOrders x = loose(many);
            Edge.refuses("as there are " + many, x, BAD, x::leaf, Edge.beside(-1, many - 1));
        }
    }

    private static void leafFull() {
        Edge.of(24, "FULL: 12.");
        WorkOrders x = loose(11);
        Edge.is("a twelfth", x.leaf(10), 11);
        Edge.refuses("a thirteenth", x, FULL, x::leaf, -1, 0, 5, 10, 11);
        Edge.refuses("a thirteenth, but BAD", x, BAD, x::leaf, Edge.beside(-1, 11));
        x.fell();
        Edge.is("there is room again", x.leaf(-1), 0);
    }

    private static void fell() {
        Edge.of(25, "The tree is empty: how many.");
        WorkOrders x = new WorkOrders();
        long empty = x.digest();
        Edge.is("it was empty", x.fell(), 0);
        for (int many = 1; many <= 12; many++) {
            for (int i = 0; i < many; i++) {
                x.leaf(i - 1);
            }
            Edge.is("of " + many, x.fell(), many);
            Edge.is("digest()", x.digest(), empty);
            Edge.is("count(4)", x.count(4), 0);
            Edge.is("least(0)", x.least(0), 0);
            Edge.is("least(1)", x.least(1), 0);
            Edge.is("levels(NONE)", x.levels(-1), 0);
        }
        Edge.refuses("nothing to hang on", x, BAD, x::leaf, 0, 11);
        // Nothing of the old tree is left: neither its LEVELS nor what hung on what.
        x.leaf(-1);
        x.leaf(-1);
        Edge.row("two loose ones", x::levels, 1, 0, 0);
    }

    private static void likes() {
        Edge.of(26, "LIKE BENCHES: what they were.");
        WorkOrders x = new WorkOrders();
        int was = 2;
        for (int n : new int[] {2, 1, 4, 4, 3, 1, 1, 2}) {
            Edge.is("likes(" + n + ")", x.likes(n), was);
            was = n;
        }
        x.likes(3);
        x.leaf(-1);
        x.fell();
        Edge.is("they stay as the tree goes", x.likes(1), 3);
    }

    private static void likesBad() {
        Edge.of(26, " BAD.");
        WorkOrders x = new WorkOrders();
        for (int n = 1; n <= 4; n++) {
            x.likes(n);
            Edge.refuses("as there are " + n, x, BAD, x::likes, Edge.beside(1, 4));
            Edge.is("they stay", x.likes(n), n);
        }
    }

    private static void levels() {
        Edge.of(27, "BY LEVELS: MINUTES (what = NONE),");
        Edge.is("of an empty tree", new WorkOrders().levels(-1), 0);
        Edge.is("of one", of(-1).levels(-1), 1);
        Edge.is("of twelve", loose(12).levels(-1), 6);
    }

    private static void levelsOf() {
        Edge.of(27, "the minute (0 on) of short WORK what.");
        WorkOrders x = chain();
        for (int i = 0; i < 12; i++) {
            Edge.is("levels(" + i + ")", x.levels(i), 11 - i);
        }
        Edge.is("one alone", of(-1).levels(0), 0);
    }

    private static void levelsBad() {
        Edge.of(27, "BAD: -10.");
        for (int many : new int[] {0, 1, 7, 12}) {
            WorkOrders x = loose(many);
            Edge.refuses("of " + many, x, -10, x::levels, Edge.beside(-1, many - 1));
        }
    }

    private static void least() {
        Edge.of(28, "LEAST MINUTES (0),");
        Edge.is("of an empty tree", new WorkOrders().least(0), 0);
        Edge.is("of one", of(-1).least(0), 1);
        Edge.is("of a chain and a loose one", of(-1, 0, 1, -1).least(0), 3);
    }

    private static void leastNotSooner() {
        Edge.of(28, "CAN NOT BE SOONER (1).");
        Edge.is("of an empty tree", new WorkOrders().least(1), 0);
        Edge.is("of one", of(-1).least(1), 1);
        Edge.is("of a chain and a loose one", of(-1, 0, 1, -1).least(1), 3);
    }

    private static void leastBad() {
        Edge.of(28, " BAD.");
        for (int many : new int[] {0, 2, 12}) {
            WorkOrders x = loose(many);
            Edge.refuses("of " + many, x, BAD, x::least, Edge.beside(0, 1));
        }
    }
}
