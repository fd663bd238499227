import java.util.Random;

/** Long runs of calls, drawn with fixed seeds, on the class and on the plain model of the document. */
final class AgainstModelTest {
    private static final int[] ODD = {Integer.MIN_VALUE, -11, -10, -3, -2, -1, 8, 12, 1000, Integer.MAX_VALUE};
    private static Random chance;
    private static WorkOrders x;
    private static Model m;
    private static String name;

    public static void main(String[] args) {
        for (int seed = 0; seed < 400 && !Due.isWrong(); seed++) {
            mixedRun(seed);
        }
        for (int seed = 0; seed < 250 && !Due.isWrong(); seed++) {
            oneBench(seed);
            rows(seed);
        }
        for (int seed = 0; seed < 300 && !Due.isWrong(); seed++) {
            twoWorks(seed);
            trees(seed);
        }
        Due.end();
    }

    private static void begin(String run, int seed) {
        chance = new Random(seed * 7919L + run.hashCode());
        x = new WorkOrders();
        m = new Model();
        name = run + " " + seed + ": ";
    }

    /** Mostly from least to most, at times one beside them, at times far away. */
    private static int some(int least, int most) {
        int luck = chance.nextInt(40);
        if (luck == 0) {
            return ODD[chance.nextInt(ODD.length)];
        }
        if (luck == 1) {
            return chance.nextBoolean() ? least - 1 : most + 1;
        }
        if (luck == 2) {
            return chance.nextBoolean() ? least : most;
        }
        return within(least, most);
    }

    private static int within(int least, int most) {
        return most < least ? least : least + chance.nextInt(most - least + 1);
    }

    private static void mixedRun(int seed) {
        begin("mixed", seed);
        int calls = seed % 10 == 0 ? 512 : 120;
        int mostWorks = seed % 10 == 0 ? 5 : 4;
        for (int i = 0; i < calls && !Due.isWrong(); i++) {
            int n = m.works.size();
            // All orders of many WORKS are too dear for the model in every run.
            if (chance.nextInt(8) == 0 && n < mostWorks) {
                int v = some(1, 40);
                Due.is(name + "work(" + v + ")", x.work(v), m.work(v));
            }
            oneCall(chance.nextInt(30), n);
            Due.is(name + "digest() behind call " + i, x.digest(), m.digest());
        }
    }

    private static void oneCall(int which, int n) {
        int a = some(0, n - 1);
        int b = some(0, n - 1);
        boolean is = chance.nextInt(4) != 0;
        int order = some(-1, n - 1);
        switch (which) {
            case 0: case 1: case 2: {
                int what = some(0, 4);
                int v = some(0, new int[] {40, 99, 300, 20, 2}[Math.floorMod(what, 5)]);
                if (chance.nextInt(3) == 0) v = within(0, 30);
                Due.is(name + "put(" + a + ", " + what + ", " + v + ")", x.put(a, what, v), m.put(a, what, v));
                break;
            }
            case 3: case 4:
                Due.is(name + "ahead(" + a + ", " + b + ", " + is + ")", x.ahead(a, b, is), m.ahead(a, b, is));
                break;
            case 5: {
                int from = some(0, 2), to = some(0, 2), v = some(0, 20);
                Due.is(name + "change(" + from + ", " + to + ", " + v + ")", x.change(from, to, v), m.change(from, to, v));
                break;
            }
            case 6: case 7: {
                int aim = some(0, 4);
                Due.is(name + "best(" + aim + ", " + order + ")", x.best(aim, order), m.best(aim, order));
                break;
            }
            case 8:
                Due.is(name + "lastFirst(" + order + ")", x.lastFirst(order), m.lastFirst(order));
                break;
            case 9:
                Due.is(name + "onTime()", x.onTime(), m.onTime());
                break;
            case 10: {
                int what = some(0, 2);
                Due.is(name + "broken(" + what + ")", x.broken(what), m.broken(what));
                break;
            }
            case 11: {
                int t = chance.nextBoolean() ? some(0, 999) : within(0, 150);
                Due.is(name + "minute(" + t + ")", x.minute(t), m.minute(t));
                break;
            }
            case 12: case 13: case 14:
                Due.is(name + "next(" + a + ")", x.next(a), m.next(a));
                break;
            case 15:
                if (chance.nextInt(4) == 0) Due.is(name + "anew()", x.anew(), m.anew());
                break;
            case 16: case 17: {
                int aim = some(0, 5);
                Due.is(name + "judge(" + aim + ")", x.judge(aim), m.judge(aim));
                break;
            }
            case 18: {
                int v = some(2, 4);
                Due.is(name + "benches(" + v + ")", x.benches(v), m.benches(v));
                break;
            }
            case 19: case 20: {
                int bench = some(0, 3), v = some(1, 40);
                Due.is(name + "needs(" + a + ", " + bench + ", " + v + ")", x.needs(a, bench, v), m.needs(a, bench, v));
                break;
            }
            case 21: {
                int bench = some(1, 3), v = some(0, chance.nextBoolean() ? 9 : 1);
                Due.is(name + "way(" + bench + ", " + v + ")", x.way(bench, v), m.way(bench, v));
                break;
            }
            case 22:
                Due.is(name + "byRule(" + order + ")", x.byRule(order), m.byRule(order));
                break;
            case 23:
                Due.is(name + "bestRow(" + order + ")", x.bestRow(order), m.bestRow(order));
                break;
            case 24:
                Due.is(name + "bound()", x.bound(), m.bound());
                Due.is(name + "any()", x.any(), m.any());
                break;
            default:
                otherCall(which, n);
                break;
        }
    }

    private static void otherCall(int which, int n) {
        switch (which) {
            case 25: {
                int one = some(0, 1), bench = some(0, 5), v = some(1, 20);
                Due.is(name + "step(" + one + ", " + bench + ", " + v + ")", x.step(one, bench, v), m.step(one, bench, v));
                break;
            }
            case 26:
                if (chance.nextInt(8) == 0) Due.is(name + "clear()", x.clear(), m.clear());
                if (chance.nextInt(8) == 0) Due.is(name + "fell()", x.fell(), m.fell());
                Due.is(name + "walk()", x.walk(), m.walk());
                break;
            case 27: {
                int on = some(-1, m.hangs.size() - 1);
                Due.is(name + "leaf(" + on + ")", x.leaf(on), m.leaf(on));
                break;
            }
            case 28: {
                int v = some(1, 4), what = some(-1, m.hangs.size() - 1), l = some(0, 1);
                Due.is(name + "likes(" + v + ")", x.likes(v), m.likes(v));
                Due.is(name + "levels(" + what + ")", x.levels(what), m.levels(what));
                Due.is(name + "least(" + l + ")", x.least(l), m.least(l));
                break;
            }
            default: {
                int what = some(0, 4);
                Due.is(name + "count(" + what + ")", x.count(what), m.count(what));
                break;
            }
        }
    }

    private static int worksOf(int seed) {
        return seed % 50 == 0 ? 8 : seed % 10 == 0 ? 7 : seed % 7;
    }

    private static void oneBench(int seed) {
        begin("one bench", seed);
        int n = worksOf(seed);
        int kind = seed % 4;
        for (int i = 0; i < n; i++) {
            int length = within(1, kind == 0 ? 3 : 40);
            both(x.work(length), m.work(length));
            if (kind != 1) tell(i, 1, within(0, kind == 0 ? 9 : 99));
            tell(i, 2, within(0, kind == 0 ? 15 : kind == 2 ? 300 : 120));
            tell(i, 3, within(0, kind == 0 ? 2 : 20));
            if (kind != 3) tell(i, 4, within(0, 2));
        }
        for (int i = 0; i < 6; i++) {
            int from = within(0, 2), to = within(0, 2), v = within(0, kind == 0 ? 3 : 20);
            both(x.change(from, to, v), m.change(from, to, v));
        }
        for (int i = 0; i < seed % 5; i++) {
            int a = within(0, n), b = within(0, n);
            both(x.ahead(a, b, true), m.ahead(a, b, true));
        }
        for (int what = -1; what < n; what++) {
            if (n < 7 || what <= 0) {
                for (int aim = 0; aim < 5; aim++) {
                    Due.is(name + "best(" + aim + ", " + what + ")", x.best(aim, what), m.best(aim, what));
                }
            }
            Due.is(name + "lastFirst(" + what + ")", x.lastFirst(what), m.lastFirst(what));
        }
        judgeBest(n);
        judgeRules();
    }

    /** The ORDER of the best, told again, makes the same. */
    private static void judgeBest(int n) {
        for (int aim = 0; aim < 5; aim++) {
            both(x.anew(), m.anew());
            for (int i = 0; i < n; i++) {
                int work = x.best(aim, i);
                both(x.next(work), m.next(work));
            }
            Due.is(name + "judge(" + aim + ") of the best", x.judge(aim), x.best(aim, -1));
        }
    }

    private static void judgeRules() {
        Due.is(name + "the least greatest LATE", x.lastFirst(-1), m.leastGreatestLate());
        Due.is(name + "onTime()", x.onTime(), m.onTime());
        Due.is(name + "most on time", Integer.bitCount(x.onTime()), m.mostOnTime());
        for (int what = 0; what < 3; what++) {
            Due.is(name + "broken(" + what + ")", x.broken(what), m.broken(what));
        }
        if (x.broken(0) > 0) {
            Due.is(name + "WHY makes the LATE", m.why()[0], x.broken(0));
        }
        for (int t = 0; t < 430; t += 1 + chance.nextInt(9)) {
            Due.is(name + "minute(" + t + ")", x.minute(t), m.minute(t));
        }
    }

    private static void rows(int seed) {
        begin("rows", seed);
        int n = worksOf(seed);
        int most = seed % 3 == 0 ? 4 : 40;
        for (int i = 0; i < n; i++) {
            both(x.work(5), m.work(5));
            for (int bench = 0; bench < 4; bench++) {
                int v = within(1, most);
                both(x.needs(i, bench, v), m.needs(i, bench, v));
            }
        }
        Due.is(name + "byRule is the best with ways of 9", x.byRule(-1), n == 0 ? 0 : x.bestRow(-1));
        int benches = within(2, n == 8 ? 3 : 4);
        both(x.benches(benches), m.benches(benches));
        for (int bench = 1; bench < 4; bench++) {
            int v = chance.nextInt(3) == 0 ? 9 : within(0, 3);
            both(x.way(bench, v), m.way(bench, v));
        }
        for (int what = -1; what < n; what++) {
            if (n < 7 || what < 0) {
                Due.is(name + "bestRow(" + what + ")", x.bestRow(what), m.bestRow(what));
            }
            Due.is(name + "byRule(" + what + ")", x.byRule(what), m.byRule(what));
        }
        Due.is(name + "bound()", x.bound(), m.bound());
        Due.holds(name + "bound() is none above bestRow(-1)", x.bound() <= x.bestRow(-1));
        Due.is(name + "any()", x.any(), m.any());
        for (int i = 0; i < n; i++) {
            int work = x.bestRow(i);
            both(x.next(work), m.next(work));
        }
        Due.is(name + "judge(5) of the best row", x.judge(5), m.judge(5));
        Due.is(name + "judge(5) of the best row", x.judge(5), x.bestRow(-1));
    }

    private static void twoWorks(int seed) {
        begin("two works", seed);
        int benches = seed % 6;
        int longest = seed % 4 == 0 ? 20 : seed % 4 == 1 ? 1 : 5;
        for (int i = 0; i < 14; i++) {
            int which = within(0, 1), bench = within(0, benches), v = within(1, longest);
            Due.is(name + "step(" + which + ", " + bench + ", " + v + ")", x.step(which, bench, v), m.step(which, bench, v));
            Due.is(name + "walk() behind step " + i, x.walk(), m.walk());
            if (m.meetings().size() <= 9) {
                Due.is(name + "walk() is the least by turns", x.walk(), m.leastByTurns());
            }
        }
        Due.is(name + "digest()", x.digest(), m.digest());
    }

    private static void trees(int seed) {
        begin("trees", seed);
        int most = seed % 20 == 0 ? 13 : 9;
        for (int i = 0; i < most; i++) {
            int on = seed % 5 == 0 ? within(-1, 0) : seed % 5 == 1 ? within(Math.max(-1, i - 3), i - 1) : within(-1, i - 1);
            Due.is(name + "leaf(" + on + ")", x.leaf(on), m.leaf(on));
        }
        for (int n = 1; n <= 4; n++) {
            Due.is(name + "likes(" + n + ")", x.likes(n), m.likes(n));
            for (int what = -1; what < most; what++) {
                Due.is(name + "levels(" + what + ")", x.levels(what), m.levels(what));
            }
            Due.is(name + "least(0)", x.least(0), m.least(0));
            Due.is(name + "least(1)", x.least(1), m.least(1));
            Due.is(name + "levels(-1) are the least", x.levels(-1), x.least(0));
        }
        Due.is(name + "digest()", x.digest(), m.digest());
    }

    private static void tell(int work, int what, int v) {
        Due.is(name + "put(" + work + ", " + what + ", " + v + ")", x.put(work, what, v), m.put(work, what, v));
    }

    private static void both(int got, int want) {
        Due.is(name + "a call on the way", got, want);
    }
}
