/** The sentences on LAST FIRST, FEWEST LATE and BROKEN; promises 7 to 10. */
final class EdgesOfBenchRules {
    private static final int NONE = WorkOrders.NONE, BAD = WorkOrders.BAD;
    private static final int COMES = 1, DUE = 2, WEIGHT = 3, TOOL = 4;

    static void all() {
        lastFirstWithout();
        lastFirstMustFollow();
        lastFirstLeastLate();
        lastFirstLikeOnes();
        lastFirstGreatestLate();
        lastFirst();
        lastFirstIth();
        lastFirstBad();
        fewestLateWithout();
        fewestLateByDue();
        fewestLateBehindDue();
        fewestLateLikeOnes();
        fewestLateBits();
        onTime();
        brokenOff();
        brokenComes();
        brokenLeastDue();
        brokenLikeOnes();
        brokenLate();
        whyMinutes();
        whyWorks();
        whyGreatest();
        whyFirst();
        broken();
        brokenWhy();
        brokenNone();
        brokenBad();
        minute();
        minuteNone();
        minuteBad();
    }

    /** COMES, CHANGES and WEIGHTS as far from the first ones as can be. */
    private static void disturb(WorkOrders x, boolean comesToo) {
        for (int work = 0; work < x.count(0); work++) {
            x.put(work, TOOL, work % 3);
            x.put(work, WEIGHT, 20 * (work % 2));
            if (comesToo) {
                x.put(work, COMES, 99 - work);
            }
        }
        for (int from = 0; from < 3; from++) {
            for (int to = 0; to < 3; to++) {
                x.change(from, to, 20);
            }
        }
    }

    private static void lastFirstWithout() {
        Edge.of(Edge.TERMS, "LAST FIRST: without COMES, without CHANGES (as if all were 0):");
        WorkOrders x = Edge.of(4, 3, 2);
        Edge.putAll(x, DUE, 3, 5, 4);
        disturb(x, true);
        // At 9: 6, 4, 5 LATE; at 6: 3, 2 LATE; at 4: 1.
        Edge.row("lastFirst", x::lastFirst, 4, 0, 2, 1);
    }

    private static void lastFirstMustFollow() {
        Edge.of(Edge.TERMS, "from behind: of those that nothing which is left must follow,");
        WorkOrders x = Edge.of(1, 1, 1);
        x.ahead(2, 0, true);
        Edge.row("2 ahead of 0", x::lastFirst, 0, 2, 0, 1);
        x.ahead(1, 2, true);
        Edge.row("1 ahead of 2 ahead of 0", x::lastFirst, 0, 1, 2, 0);
        WorkOrders y = Edge.eight(40);
        for (int i = 7; i > 0; i--) {
            y.ahead(i, i - 1, true);
        }
        Edge.row("each ahead of the one with the next lesser number", y::lastFirst, 20, 7, 6, 5, 4, 3, 2, 1, 0);
        y.put(7, DUE, 300);
        y.put(0, DUE, 0);
        // 0 is LATE by all of it, but nothing else may be last.
        Edge.row("the least LATE may not be last", y::lastFirst, 320, 7, 6, 5, 4, 3, 2, 1, 0);
    }

    private static void lastFirstLeastLate() {
        Edge.of(Edge.TERMS, "the one that would be least LATE as the last of those that are left,");
        WorkOrders x = Edge.of(5, 2);
        Edge.putAll(x, DUE, 4, 6);
        Edge.row("at 7: 3 and 1", x::lastFirst, 1, 0, 1);
        Edge.putAll(x, DUE, 6, 4);
        Edge.row("at 7: 1 and 3", x::lastFirst, 1, 1, 0);
        Edge.putAll(x, DUE, 7, 6);
        Edge.row("at 7: 0 and 1", x::lastFirst, 0, 1, 0);
        // LATE is 0 at least, so that these are like ones.
        Edge.putAll(x, DUE, 300, 7);
        Edge.row("at 7: 0 and 0", x::lastFirst, 0, 0, 1);
    }

    private static void lastFirstLikeOnes() {
        Edge.of(Edge.TERMS, "of like ones the greatest number, goes last:");
        WorkOrders x = Edge.eight(3);
        Edge.row("none is LATE", x::lastFirst, 0, 0, 1, 2, 3, 4, 5, 6, 7);
        Edge.putAll(x, DUE, 0, 0, 0, 0, 0, 0, 0, 0);
        Edge.row("all are LATE", x::lastFirst, 24, 0, 1, 2, 3, 4, 5, 6, 7);
        x.put(3, DUE, 1);
        Edge.row("but one is less LATE", x::lastFirst, 23, 0, 1, 2, 4, 5, 6, 7, 3);
    }

    private static void lastFirstGreatestLate() {
        Edge.of(Edge.TERMS, "the ORDER so made; its greatest LATE.");
        WorkOrders x = Edge.of(10, 1);
        Edge.putAll(x, DUE, 0, 3);
        // 1 at 11 is LATE by 8, 0 at 10 by 10.
        Edge.row("the greatest is not that of the last", x::lastFirst, 10, 0, 1);
        Edge.putAll(x, DUE, 10, 11);
        Edge.row("both END as they are DUE", x::lastFirst, 0, 0, 1);
    }

    private static void lastFirst() {
        Edge.of(7, "LAST FIRST: its greatest LATE (what = NONE),");
        Edge.is("without WORKS", new WorkOrders().lastFirst(-1), 0);
        WorkOrders x = Edge.eight(40);
        Edge.is("the last at 320, DUE by 300", x.lastFirst(-1), 20);
        Edge.putAll(x, DUE, 0, 0, 0, 0, 0, 0, 0, 0);
        Edge.is("the greatest of all", x.lastFirst(-1), 320);
    }

    private static void lastFirstIth() {
        Edge.of(7, "the i-th WORK (what = i).");
        Edge.is("one WORK", Edge.of(1).lastFirst(0), 0);
        WorkOrders x = Edge.eight(1);
        Edge.putAll(x, DUE, 7, 6, 5, 4, 3, 2, 1, 0);
        for (int i = 0; i < 8; i++) {
            Edge.is("lastFirst(" + i + ")", x.lastFirst(i), 7 - i);
        }
    }

    private static void lastFirstBad() {
        Edge.of(7, "BAD: -10.");
        WorkOrders none = new WorkOrders();
        Edge.refuses("without WORKS", none, -10, none::lastFirst, Edge.beside(-1, -1));
        WorkOrders x = Edge.of(1, 2);
        Edge.refuses("two WORKS", x, -10, x::lastFirst, Edge.beside(-1, 1));
        WorkOrders eight = Edge.eight(1);
        Edge.refuses("eight WORKS", eight, -10, eight::lastFirst, Edge.beside(-1, 7));
    }

    private static void fewestLateWithout() {
        Edge.of(Edge.TERMS, "FEWEST LATE: without COMES, CHANGES, AHEAD:");
        WorkOrders x = Edge.of(1, 1, 1);
        Edge.putAll(x, DUE, 1, 2, 3);
        disturb(x, true);
        x.ahead(2, 1, true);
        x.ahead(1, 0, true);
        Edge.is("all stay", x.onTime(), 0b111);
    }

    private static void fewestLateByDue() {
        Edge.of(Edge.TERMS, "WORKS by DUE (of like ones by numbers) one by one;");
        WorkOrders x = Edge.of(3, 3);
        Edge.putAll(x, DUE, 5, 5);
        Edge.is("0 ahead of 1, that ENDS at 6", x.onTime(), 0b01);
        Edge.putAll(x, DUE, 5, 4);
        Edge.is("1 ahead of 0, that ENDS at 6", x.onTime(), 0b10);
        Edge.putAll(x, DUE, 6, 3);
        Edge.is("1 ahead of 0: both stay", x.onTime(), 0b11);
    }

    private static void fewestLateBehindDue() {
        Edge.of(Edge.TERMS, "as one ENDS behind its DUE the longest so far");
        WorkOrders x = Edge.of(3);
        x.put(0, DUE, 3);
        Edge.is("it ENDS as it is DUE", x.onTime(), 1);
        x.put(0, DUE, 2);
        Edge.is("it ENDS a minute behind: it is the longest itself", x.onTime(), 0);
        WorkOrders y = Edge.of(5, 2);
        Edge.putAll(y, DUE, 5, 6);
        Edge.is("1 ENDS behind its DUE, 0 is longer", y.onTime(), 0b10);
        WorkOrders z = Edge.of(9, 1, 8);
        Edge.putAll(z, DUE, 8, 9, 9);
        Edge.is("what is put out takes no time", z.onTime(), 0b110);
        z.put(2, DUE, 8);
        // By DUE: 0 is out; 2 at 8; 1 at 9, as it is DUE.
        Edge.is("and is not the longest any more", z.onTime(), 0b110);
        z.put(1, DUE, 8);
        // 1 at 1, 2 at 9 behind 8: of these 2 is the longest.
        Edge.is("the longest of those that are in", z.onTime(), 0b010);
    }

    private static void fewestLateLikeOnes() {
        Edge.of(Edge.TERMS, "(of like ones the one told last of these by that order) is put out:");
        WorkOrders x = Edge.of(4, 4, 1);
        Edge.putAll(x, DUE, 8, 5, 7);
        Edge.is("by DUE 1 2 0: 0 is the last of like ones", x.onTime(), 0b110);
        Edge.putAll(x, DUE, 8, 5, 8);
        Edge.is("by DUE 1 0 2: 0 is put out as 2 is LATE", x.onTime(), 0b110);
        Edge.putAll(x, DUE, 5, 8, 8);
        Edge.is("by DUE 0 1 2: 1 is put out as 2 is LATE", x.onTime(), 0b101);
        Edge.putAll(x, DUE, 8, 8, 8);
        Edge.is("by numbers 0 1 2: 1 is put out", x.onTime(), 0b101);
    }

    private static void fewestLateBits() {
        Edge.of(Edge.TERMS, "those that stay, as bits.");
        WorkOrders x = Edge.eight(1);
        Edge.is("all", x.onTime(), 255);
        for (int i = 0; i < 8; i++) {
            x.put(i, DUE, 0);
            Edge.is("all but " + i, x.onTime(), 255 - (1 << i));
            x.put(i, DUE, 300);
        }
        Edge.putAll(x, DUE, 0, 0, 0, 0, 0, 0, 0, 0);
        Edge.is("none", x.onTime(), 0);
        x.put(7, DUE, 1);
        Edge.is("the last alone", x.onTime(), 128);
    }

    private static void onTime() {
        Edge.of(8, "FEWEST LATE: WORKS that stay.");
        Edge.is("without WORKS", new WorkOrders().onTime(), 0);
        WorkOrders x = Edge.eight(40);
        // The last one ENDS at 320: of like ones the last is put out.
        Edge.is("eight of 40 by 300", x.onTime(), 127);
        x.put(2, 0, 20);
        Edge.is("seven of 40 and one of 20 by 300", x.onTime(), 255);
    }

    private static void minutes(WorkOrders x, int... row) {
        for (int m = 0; m < row.length; m++) {
            Edge.is("minute(" + m + ")", x.minute(m), row[m]);
        }
    }

    private static void brokenOff() {
        Edge.of(Edge.TERMS, "BROKEN: WORKS may be broken off at any minute and gone on later");
        WorkOrders x = Edge.of(3, 1, 1);
        Edge.putAll(x, COMES, 0, 1, 3);
        Edge.putAll(x, DUE, 300, 5, 5);
        minutes(x, 0, 1, 0, 2, 0, NONE);
        WorkOrders y = Edge.of(40, 40);
        Edge.putAll(y, COMES, 0, 39);
        Edge.putAll(y, DUE, 300, 299);
        Edge.is("a minute ahead of its end", y.minute(38), 0);
        Edge.is("broken off for the last minute", y.minute(39), 1);
        Edge.is("the other till its end", y.minute(78), 1);
        Edge.is("the last minute", y.minute(79), 0);
        Edge.is("none behind", y.minute(80), NONE);
    }

    private static void brokenComes() {
        Edge.of(Edge.TERMS, "(COMES as told; no AHEAD, CHANGES):");
        WorkOrders x = Edge.of(2, 2);
        Edge.putAll(x, COMES, 5, 4);
        disturb(x, false);
        x.ahead(0, 1, true);
        minutes(x, NONE, NONE, NONE, NONE, 1, 0, 0, 1, NONE);
        Edge.putAll(x, COMES, 99, 98);
        Edge.is("none till it COMES", x.minute(97), NONE);
        Edge.is("as it COMES", x.minute(98), 1);
        Edge.is("as it COMES", x.minute(99), 0);
    }

    private static void brokenLeastDue() {
        Edge.of(Edge.TERMS, "minute by minute that of those that are there and not done with the least DUE,");
        WorkOrders x = Edge.of(1, 1, 1);
        Edge.putAll(x, DUE, 2, 1, 0);
        minutes(x, 2, 1, 0, NONE);
        Edge.putAll(x, DUE, 299, 300, 298);
        minutes(x, 2, 0, 1, NONE);
        x.put(2, COMES, 1);
        minutes(x, 0, 2, 1, NONE);
        x.put(2, COMES, 3);
        minutes(x, 0, 1, NONE, 2, NONE);
    }

    private static void brokenLikeOnes() {
        Edge.of(Edge.TERMS, "of like ones the least number:");
        WorkOrders x = Edge.of(1, 3);
        Edge.putAll(x, COMES, 1, 0);
        Edge.putAll(x, DUE, 9, 9);
        minutes(x, 1, 0, 1, 1, NONE);
        WorkOrders y = Edge.of(3, 1);
        Edge.putAll(y, COMES, 0, 1);
        Edge.putAll(y, DUE, 9, 9);
        minutes(y, 0, 0, 0, 1, NONE);
        minutes(Edge.eight(1), 0, 1, 2, 3, 4, 5, 6, 7, NONE);
    }

    private static void brokenLate() {
        Edge.of(Edge.TERMS, "the greatest LATE so, what is done in a minute.");
        WorkOrders x = Edge.of(4, 2);
        Edge.putAll(x, COMES, 0, 1);
        Edge.putAll(x, DUE, 6, 3);
        Edge.is("both END as they are DUE", x.broken(0), 0);
        minutes(x, 0, 1, 1, 0, 0, 0, NONE);
        x.put(0, DUE, 5);
        Edge.is("a minute behind", x.broken(0), 1);
        Edge.putAll(x, DUE, 5, 0);
        Edge.is("3 and 1 behind: not that of the last", x.broken(0), 3);
        Edge.putAll(x, DUE, 300, 300);
        Edge.is("0 at least", x.broken(0), 0);
    }

    private static void why(WorkOrders x, int late, int a, int d) {
        Edge.is("broken(0)", x.broken(0), late);
        Edge.is("broken(1)", x.broken(1), a);
        Edge.is("broken(2)", x.broken(2), d);
    }

    private static void whyMinutes() {
        Edge.of(Edge.TERMS, "WHY: of all minutes a (0 .. 99) and d (0 .. 300)");
        WorkOrders x = Edge.eight(40);
        why(x, 20, 0, 300);
        for (int i = 0; i < 8; i++) {
            x.put(i, COMES, 99);
        }
        why(x, 119, 99, 300);
        for (int i = 0; i < 8; i++) {
            x.put(i, DUE, 0);
        }
        why(x, 419, 99, 0);
        for (int i = 0; i < 8; i++) {
            x.put(i, COMES, 0);
        }
        why(x, 320, 0, 0);
    }

    private static void whyWorks() {
        Edge.of(Edge.TERMS, "with a WORK that COMES at a or later and is DUE by d");
        WorkOrders x = Edge.of(5, 1);
        x.put(0, COMES, 7);
        x.put(0, DUE, 10);
        why(x, 2, 7, 10);
        x.put(1, COMES, 7);
        x.put(1, DUE, 10);
        why(x, 3, 7, 10);
        x.put(1, COMES, 8);
        why(x, 3, 7, 10);
        // From 7 on it is not one of these; from 6 on there is a minute more.
        x.put(1, COMES, 6);
        why(x, 2, 6, 10);
        // By 10 it is not one of these; by 11 there is a minute more.
        x.put(1, COMES, 7);
        x.put(1, DUE, 11);
        why(x, 2, 7, 10);
        x.put(1, DUE, 9);
        why(x, 3, 7, 10);
    }

    private static void whyGreatest() {
        Edge.of(Edge.TERMS, "the greatest of (a and LONG of all such WORKS together, less d):");
        WorkOrders x = Edge.of(10, 20, 30);
        Edge.putAll(x, COMES, 0, 5, 50);
        Edge.putAll(x, DUE, 9, 30, 70);
        // 0 + 10 - 9 = 1; 0 + 30 - 30 = 0; 5 + 20 - 30 < 0; 50 + 30 - 70 = 10; 0 + 60 - 70 < 0.
        why(x, 10, 50, 70);
        x.put(2, DUE, 79);
        why(x, 1, 0, 9);
        x.put(1, DUE, 25);
        why(x, 5, 0, 25);
    }

    private static void whyFirst() {
        Edge.of(Edge.TERMS, "the first a, then d that make it.");
        WorkOrders x = Edge.of(11, 3);
        Edge.putAll(x, COMES, 0, 10);
        Edge.putAll(x, DUE, 12, 11);
        // 0 + 14 - 12 and 10 + 3 - 11: the first a, though its d is the later one.
        why(x, 2, 0, 12);
        WorkOrders y = Edge.of(3, 3);
        Edge.putAll(y, COMES, 8, 5);
        Edge.putAll(y, DUE, 9, 6);
        // 5 + 3 - 6, 5 + 6 - 9 and 8 + 3 - 9.
        why(y, 2, 5, 6);
    }

    private static void broken() {
        Edge.of(9, "BROKEN: the greatest LATE (what = 0),");
        WorkOrders x = Edge.of(40);
        x.put(0, DUE, 40);
        Edge.is("it ENDS as it is DUE", x.broken(0), 0);
        x.put(0, DUE, 39);
        Edge.is("a minute behind", x.broken(0), 1);
    }

    private static void brokenWhy() {
        Edge.of(9, "WHY: a (1), d (2).");
        WorkOrders x = Edge.of(40);
        Edge.putAll(x, COMES, 17);
        Edge.putAll(x, DUE, 23);
        Edge.is("broken(1)", x.broken(1), 17);
        Edge.is("broken(2)", x.broken(2), 23);
    }

    private static void brokenNone() {
        Edge.of(9, "NONE: 1, 2 where it is 0.");
        WorkOrders none = new WorkOrders();
        Edge.is("without WORKS", none.broken(0), 0);
        Edge.is("without WORKS", none.broken(1), -1);
        Edge.is("without WORKS", none.broken(2), -1);
        WorkOrders x = Edge.of(40);
        x.put(0, DUE, 39);
        Edge.is("LATE", x.broken(1), 0);
        x.put(0, DUE, 40);
        Edge.is("as it is DUE", x.broken(1), -1);
        Edge.is("as it is DUE", x.broken(2), -1);
        x.put(0, DUE, 300);
        Edge.is("far sooner", x.broken(1), -1);
        Edge.is("far sooner", x.broken(2), -1);
    }

    private static void brokenBad() {
        Edge.of(9, " BAD.");
        WorkOrders x = Edge.of(40);
        Edge.refuses("none is LATE", x, BAD, x::broken, Edge.beside(0, 2));
        x.put(0, DUE, 0);
        Edge.refuses("one is LATE", x, BAD, x::broken, Edge.beside(0, 2));
        WorkOrders none = new WorkOrders();
        Edge.refuses("without WORKS", none, BAD, none::broken, Edge.beside(0, 2));
    }

    private static void minute() {
        Edge.of(10, "BROKEN: the WORK of a minute (0 .. 999).");
        WorkOrders x = Edge.eight(40);
        Edge.is("the first", x.minute(0), 0);
        Edge.is("the last of 0", x.minute(39), 0);
        Edge.is("the first of 1", x.minute(40), 1);
        Edge.is("the last of all", x.minute(319), 7);
        for (int i = 0; i < 8; i++) {
            x.put(i, COMES, 99);
        }
        Edge.is("the first", x.minute(99), 0);
        Edge.is("the last that can be", x.minute(418), 7);
        Edge.is("the greatest minute", x.minute(999), NONE);
    }

    private static void minuteNone() {
        Edge.of(10, " NONE.");
        WorkOrders none = new WorkOrders();
        Edge.is("without WORKS", none.minute(0), -1);
        Edge.is("without WORKS", none.minute(999), -1);
        WorkOrders x = Edge.of(2, 3);
        Edge.putAll(x, COMES, 1, 5);
        minutes(x, -1, 0, 0, -1, -1, 1, 1, 1, -1);
    }

    private static void minuteBad() {
        Edge.of(10, "BAD: -10.");
        WorkOrders none = new WorkOrders();
        Edge.refuses("without WORKS", none, -10, none::minute, Edge.beside(0, 999));
        WorkOrders x = Edge.eight(40);
        Edge.refuses("eight WORKS", x, -10, x::minute, Edge.beside(0, 999));
    }
}
