import java.util.Arrays;

/**
 * Orders of work on one bench, on benches in a row, of two works through the
 * same benches, and of short works that hang on each other as a tree.
 * The words in capitals are those of the document.
 */
public final class WorkOrders {
    public static final int NONE = -1, BAD = -2, NO = -3, FULL = -4;

    /** The calls that ask for an order, a minute or a judgement refuse by these. */
    private static final int BAD_ASKED = -10, NO_ASKED = -20;

    private static final int MOST_WORKS = 8, MOST_BENCHES = 4, LEAST_BENCHES = 2, MOST_WAY = 9;
    private static final int LONGEST = 40, TOOLS = 3, LONGEST_CHANGE = 20;
    private static final int LONG = 0, COMES = 1, DUE = 2, WEIGHT = 3, TOOL = 4, TRAITS = 5;
    private static final int[] LEAST_TRAIT = {1, 0, 0, 0, 0};
    private static final int[] MOST_TRAIT = {40, 99, 300, 20, 2};
    private static final int[] FIRST_TRAIT = {1, 0, 300, 1, 0};
    private static final int LAST_END = 0, ENDS = 1, LATES = 2, GREATEST_LATE = 3, LATE_WEIGHTS = 4, IN_ROW = 5;
    private static final int LAST_MINUTE = 999;
    private static final int MOST_STEPS = 6, STEP_BENCHES = 6, LONGEST_STEP = 20;
    private static final int MOST_LEAVES = 12, MOST_LIKES = 4;
    private static final int KINDS_COUNTED = 5;
    /** Above every time and every sum of them, and far from where int wraps around. */
    private static final int FAR = 1_000_000_000;

    private final Works works;
    private final ToldOrder told;
    private final BestOrder bestOrder;
    private final BenchRules benchRules;
    private final BrokenWork brokenWork;
    private final Row row;
    private final BestInRow bestInRow;
    private final RowRule rowRule;
    private final TwoWorks twoWorks;
    private final Tree tree;

    public WorkOrders() {
        works = new Works();
        told = new ToldOrder();
        bestOrder = new BestOrder(works);
        benchRules = new BenchRules(works);
        brokenWork = new BrokenWork(works);
        row = new Row(works);
        bestInRow = new BestInRow(works, row);
        rowRule = new RowRule(works);
        twoWorks = new TwoWorks();
        tree = new Tree();
    }

    // ---- one bench

    public int work(int length) {
        if (!isFrom(length, LEAST_TRAIT[LONG], MOST_TRAIT[LONG])) {
            return BAD;
        }
        if (works.size >= MOST_WORKS) {
            return FULL;
        }
        return works.add(length);
    }

    public int put(int work, int what, int v) {
        if (!works.has(work) || !isFrom(what, 0, TRAITS - 1)
                || !isFrom(v, LEAST_TRAIT[what], MOST_TRAIT[what])) {
            return BAD;
        }
        int was = works.traits[what][work];
        works.traits[what][work] = v;
        return was;
    }

    public int ahead(int a, int b, boolean is) {
        if (!works.has(a) || !works.has(b) || a == b) {
            return BAD;
        }
        if (works.isToldAhead(a, b) == is || works.isAheadByOthersToo(b, a)) {
            return NO;
        }
        works.tellAhead(a, b, is);
        return 1;
    }

    public int change(int from, int to, int v) {
        if (!isFrom(from, 0, TOOLS - 1) || !isFrom(to, 0, TOOLS - 1) || from == to
                || !isFrom(v, 0, LONGEST_CHANGE)) {
            return BAD;
        }
        int was = works.changes[from][to];
        works.changes[from][to] = v;
        return was;
    }

    public int best(int aim, int what) {
        if (!isFrom(aim, LAST_END, LATE_WEIGHTS) || !isFrom(what, NONE, works.size - 1)) {
            return BAD_ASKED;
        }
        bestOrder.seek(aim);
        return what == NONE ? bestOrder.made : bestOrder.order[what];
    }

    public int lastFirst(int what) {
        if (!isFrom(what, NONE, works.size - 1)) {
            return BAD_ASKED;
        }
        benchRules.orderFromBehind();
        return what == NONE ? benchRules.greatestLate : benchRules.order[what];
    }

    public int onTime() {
        return benchRules.fewestLate();
    }

    public int broken(int what) {
        if (!isFrom(what, 0, 2)) {
            return BAD;
        }
        int late = brokenWork.greatestLate();
        if (what == 0) {
            return late;
        }
        if (late == 0) {
            return NONE;
        }
        brokenWork.findWhy();
        return what == 1 ? brokenWork.whyFrom : brokenWork.whyTill;
    }

    public int minute(int m) {
        if (!isFrom(m, 0, LAST_MINUTE)) {
            return BAD_ASKED;
        }
        return brokenWork.workIn(m);
    }

    // ---- orders told

    public int next(int work) {
        if (!works.has(work) || told.holds(work)) {
            return BAD;
        }
        return told.add(work);
    }

    public int anew() {
        return told.empty();
    }

    public int judge(int aim) {
        if (!isFrom(aim, LAST_END, IN_ROW)) {
            return BAD_ASKED;
        }
        if (told.size != works.size) {
            return NO_ASKED;
        }
        if (aim == IN_ROW) {
            return row.lastEnd(told.order);
        }
        return works.keepsAhead(told.order) ? works.makes(aim, told.order) : NO_ASKED;
    }

    // ---- rows

    public int benches(int n) {
        if (!isFrom(n, LEAST_BENCHES, MOST_BENCHES)) {
            return BAD;
        }
        int was = row.size;
        row.size = n;
        return was;
    }

    public int needs(int work, int bench, int v) {
        if (!works.has(work) || !isFrom(bench, 0, MOST_BENCHES - 1) || !isFrom(v, 1, LONGEST)) {
            return BAD;
        }
        int was = works.times[work][bench];
        works.times[work][bench] = v;
        return was;
    }

    public int way(int bench, int v) {
        if (!isFrom(bench, 1, MOST_BENCHES - 1) || !isFrom(v, 0, MOST_WAY)) {
            return BAD;
        }
        int was = row.ways[bench];
        row.ways[bench] = v;
        return was;
    }

    public int byRule(int what) {
        if (!isFrom(what, NONE, works.size - 1)) {
            return BAD_ASKED;
        }
        rowRule.putInOrder();
        return what == NONE ? rowRule.lastEnd() : rowRule.order[what];
    }

    public int bestRow(int what) {
        if (!isFrom(what, NONE, works.size - 1)) {
            return BAD_ASKED;
        }
        bestInRow.seek();
        return what == NONE ? bestInRow.lastEnd : bestInRow.order[what];
    }

    public int bound() {
        return row.notSooner();
    }

    public int any() {
        return rowRule.inAnyOrder();
    }

    // ---- two works

    public int step(int which, int bench, int minutes) {
        if (!isFrom(which, 0, 1) || !isFrom(bench, 0, STEP_BENCHES - 1) || !isFrom(minutes, 1, LONGEST_STEP)) {
            return BAD;
        }
        if (twoWorks.sizes[which] >= MOST_STEPS) {
            return FULL;
        }
        return twoWorks.add(which, bench, minutes);
    }

    public int clear() {
        return twoWorks.empty();
    }

    public int walk() {
        return twoWorks.fewestMinutes();
    }

    // ---- trees

    public int leaf(int on) {
        if (!isFrom(on, NONE, tree.size - 1)) {
            return BAD;
        }
        if (tree.size >= MOST_LEAVES) {
            return FULL;
        }
        return tree.add(on);
    }

    public int fell() {
        return tree.empty();
    }

    public int likes(int n) {
        if (!isFrom(n, 1, MOST_LIKES)) {
            return BAD;
        }
        int was = tree.likeBenches;
        tree.likeBenches = n;
        return was;
    }

    public int levels(int what) {
        if (!isFrom(what, NONE, tree.size - 1)) {
            return BAD_ASKED;
        }
        int minutes = tree.goByLevels();
        return what == NONE ? minutes : tree.minuteOf[what];
    }

    public int least(int what) {
        if (!isFrom(what, 0, 1)) {
            return BAD;
        }
        return what == 0 ? tree.leastMinutes() : tree.notSooner();
    }

    public int count(int what) {
        switch (what) {
            case 0:
                return works.size;
            case 1:
                return told.size;
            case 2:
                return twoWorks.sizes[0];
            case 3:
                return twoWorks.sizes[1];
            case 4:
                return tree.size;
            default:
                return BAD;
        }
    }

    public long digest() {
        long h = 401;
        for (int what = 0; what < KINDS_COUNTED; what++) {
            h = fold(h, count(what));
        }
        h = works.foldInto(h);
        h = told.foldInto(h);
        h = row.foldInto(h);
        h = twoWorks.foldInto(h);
        return tree.foldInto(h);
    }

    private static boolean isFrom(int v, int least, int most) {
        return v >= least && v <= most;
    }

    private static boolean isIn(int set, int member) {
        return (set & (1 << member)) != 0;
    }

    private static long fold(long h, int v) {
        return 31 * h + v;
    }

    /** The WORKS as told, the CHANGES between TOOLS, and what an ORDER makes on one bench. */
    private static final class Works {
        int size;
        final int[][] traits = new int[TRAITS][MOST_WORKS];
        /** Of each WORK those told AHEAD of it, as bits. */
        final int[] aheadOf = new int[MOST_WORKS];
        final int[][] changes = new int[TOOLS][TOOLS];
        final int[][] times = new int[MOST_WORKS][MOST_BENCHES];

        int add(int length) {
            int work = size;
            for (int what = 0; what < TRAITS; what++) {
                traits[what][work] = FIRST_TRAIT[what];
            }
            traits[LONG][work] = length;
            Arrays.fill(times[work], 1);
            times[work][0] = length;
            size++;
            return work;
        }

        boolean has(int work) {
            return isFrom(work, 0, size - 1);
        }

        int all() {
            return (1 << size) - 1;
        }

        boolean isToldAhead(int a, int b) {
            return isIn(aheadOf[b], a);
        }

        void tellAhead(int a, int b, boolean is) {
            if (is) {
                aheadOf[b] |= 1 << a;
            } else {
                aheadOf[b] &= ~(1 << a);
            }
        }

        boolean isAheadByOthersToo(int a, int b) {
            int found = aheadOf[b];
            // A chain has fewer links than there are WORKS, so as many rounds find all of it.
            for (int round = 0; round < size; round++) {
                for (int work = 0; work < size; work++) {
                    if (isIn(found, work)) {
                        found |= aheadOf[work];
                    }
                }
            }
            return isIn(found, a);
        }

        boolean mayFollow(int placed, int work) {
            return !isIn(placed, work) && (aheadOf[work] & ~placed) == 0;
        }

        boolean keepsAhead(int[] order) {
            int placed = 0;
            for (int i = 0; i < size; i++) {
                if (!mayFollow(placed, order[i])) {
                    return false;
                }
                placed |= 1 << order[i];
            }
            return true;
        }

        int allLong() {
            int sum = 0;
            for (int work = 0; work < size; work++) {
                sum += traits[LONG][work];
            }
            return sum;
        }

        int late(int work, int end) {
            return Math.max(0, end - traits[DUE][work]);
        }

        /** Where a WORK ENDS that no CHANGE is made for. */
        int endBehind(int time, int work) {
            return Math.max(time, traits[COMES][work]) + traits[LONG][work];
        }

        int changeFor(int tool, int work) {
            return tool == NONE ? 0 : changes[tool][traits[TOOL][work]];
        }

        /** What an ORDER makes by an AIM, from what it makes without its last WORK. */
        int gathered(int aim, int soFar, int work, int end) {
            switch (aim) {
                case LAST_END:
                    return Math.max(soFar, end);
                case ENDS:
                    return soFar + traits[WEIGHT][work] * end;
                case LATES:
                    return soFar + traits[WEIGHT][work] * late(work, end);
                case GREATEST_LATE:
                    return Math.max(soFar, late(work, end));
                default:
                    return late(work, end) > 0 ? soFar + traits[WEIGHT][work] : soFar;
            }
        }

        int makes(int aim, int[] order) {
            int made = 0;
            int end = 0;
            int tool = NONE;
            for (int i = 0; i < size; i++) {
                int work = order[i];
                end = endBehind(end + changeFor(tool, work), work);
                made = gathered(aim, made, work, end);
                tool = traits[TOOL][work];
            }
            return made;
        }

        long foldInto(long h) {
            for (int work = 0; work < size; work++) {
                for (int what = 0; what < TRAITS; what++) {
                    h = fold(h, traits[what][work]);
                }
                h = fold(h, aheadOf[work]);
                for (int bench = 0; bench < MOST_BENCHES; bench++) {
                    h = fold(h, times[work][bench]);
                }
            }
            for (int from = 0; from < TOOLS; from++) {
                for (int to = 0; to < TOOLS; to++) {
                    h = fold(h, changes[from][to]);
                }
            }
            return h;
        }
    }

    /** THE TOLD ORDER. */
    private static final class ToldOrder {
        int size;
        int members;
        final int[] order = new int[MOST_WORKS];

        boolean holds(int work) {
            return isIn(members, work);
        }

        int add(int work) {
            order[size] = work;
            members |= 1 << work;
            size++;
            return size;
        }

        int empty() {
            int was = size;
            size = 0;
            members = 0;
            return was;
        }

        long foldInto(long h) {
            for (int i = 0; i < size; i++) {
                h = fold(h, order[i]);
            }
            return h;
        }
    }

    /** THE BEST by an AIM: all ORDERS from the first as a row on, less those that can't be better. */
    private static final class BestOrder {
        final Works works;
        final int[] order = new int[MOST_WORKS];
        int made;
        private int aim;
        private final int[] trial = new int[MOST_WORKS];
        /** By the set of WORKS placed and the last TOOL: the end and what was made by an ORDER tried sooner. */
        private final int[] triedEnd = new int[TOOLS << MOST_WORKS];
        private final int[] triedMade = new int[TOOLS << MOST_WORKS];

        BestOrder(Works works) {
            this.works = works;
        }

        void seek(int byAim) {
            aim = byAim;
            made = FAR;
            Arrays.fill(triedEnd, FAR);
            Arrays.fill(triedMade, FAR);
            extend(0, 0, NONE, 0, 0);
        }

        private void extend(int depth, int placed, int tool, int end, int soFar) {
            if (depth >= works.size) {
                keepIfLess(soFar);
                return;
            }
            for (int work = 0; work < works.size; work++) {
                if (!works.mayFollow(placed, work)) {
                    continue;
                }
                int ends = works.endBehind(end + works.changeFor(tool, work), work);
                int makes = works.gathered(aim, soFar, work, ends);
                int with = placed | (1 << work);
                int itsTool = works.traits[TOOL][work];
                if (notLess(with, ends, makes) >= made || triedAsGood(with, itsTool, ends, makes)) {
                    continue;
                }
                trial[depth] = work;
                extend(depth + 1, with, itsTool, ends, makes);
            }
        }

        private void keepIfLess(int value) {
            if (value < made) {
                made = value;
                System.arraycopy(trial, 0, order, 0, works.size);
            }
        }

        /** What the AIM makes at least: as if each WORK that is left came next and needed no CHANGE. */
        private int notLess(int placed, int end, int soFar) {
            int value = soFar;
            for (int work = 0; work < works.size; work++) {
                if (!isIn(placed, work)) {
                    value = works.gathered(aim, value, work, works.endBehind(end, work));
                }
            }
            return value;
        }

        /**
         * Whatever follows, what ended no later and made no more with the same TOOL stays no worse;
         * and it was tried sooner, so it is ahead as a row too.
         */
        private boolean triedAsGood(int placed, int tool, int end, int soFar) {
            int at = placed * TOOLS + tool;
            if (triedEnd[at] <= end && triedMade[at] <= soFar) {
                return true;
            }
            triedEnd[at] = end;
            triedMade[at] = soFar;
            return false;
        }
    }

    /** LAST FIRST and FEWEST LATE. */
    private static final class BenchRules {
        final Works works;
        final int[] order = new int[MOST_WORKS];
        int greatestLate;

        BenchRules(Works works) {
            this.works = works;
        }

        void orderFromBehind() {
            int left = works.all();
            int end = works.allLong();
            greatestLate = 0;
            for (int place = works.size - 1; place >= 0; place--) {
                int last = lastOf(left, end);
                if (last == NONE) {
                    return;
                }
                order[place] = last;
                greatestLate = Math.max(greatestLate, works.late(last, end));
                left &= ~(1 << last);
                end -= works.traits[LONG][last];
            }
        }

        private int lastOf(int left, int end) {
            int last = NONE;
            int led = leaders(left);
            for (int work = 0; work < works.size; work++) {
                if (isIn(left, work) && !isIn(led, work)
                        && (last == NONE || works.late(work, end) <= works.late(last, end))) {
                    last = work;
                }
            }
            return last;
        }

        /** Those that a WORK which is left must follow, as bits. */
        private int leaders(int left) {
            int set = 0;
            for (int work = 0; work < works.size; work++) {
                if (isIn(left, work)) {
                    set |= works.aheadOf[work];
                }
            }
            return set;
        }

        int fewestLate() {
            orderByDue();
            int stay = 0;
            int end = 0;
            for (int i = 0; i < works.size; i++) {
                int work = order[i];
                stay |= 1 << work;
                end += works.traits[LONG][work];
                if (works.late(work, end) > 0) {
                    int out = longestOf(stay, i);
                    stay &= ~(1 << out);
                    end -= works.traits[LONG][out];
                }
            }
            return stay;
        }

        private void orderByDue() {
            int[] due = works.traits[DUE];
            for (int work = 0; work < works.size; work++) {
                int at = work;
                while (at > 0 && due[order[at - 1]] > due[work]) {
                    order[at] = order[at - 1];
                    at--;
                }
                order[at] = work;
            }
        }

        private int longestOf(int stay, int upTo) {
            int[] length = works.traits[LONG];
            int longest = order[upTo];
            for (int i = upTo - 1; i >= 0; i--) {
                if (isIn(stay, order[i]) && length[order[i]] > length[longest]) {
                    longest = order[i];
                }
            }
            return longest;
        }
    }

    /** BROKEN: WORKS that may be broken off, minute by minute, and WHY they are LATE. */
    private static final class BrokenWork {
        final Works works;
        int whyFrom;
        int whyTill;
        private final int[] left = new int[MOST_WORKS];

        BrokenWork(Works works) {
            this.works = works;
        }

        int greatestLate() {
            begin();
            int greatest = 0;
            int open = works.size;
            for (int m = 0; m <= LAST_MINUTE && open > 0; m++) {
                int work = workOn(m);
                if (work != NONE && left[work] == 0) {
                    greatest = Math.max(greatest, works.late(work, m + 1));
                    open--;
                }
            }
            return greatest;
        }

        int workIn(int minute) {
            begin();
            int work = NONE;
            for (int m = 0; m <= minute; m++) {
                work = workOn(m);
            }
            return work;
        }

        private void begin() {
            System.arraycopy(works.traits[LONG], 0, left, 0, works.size);
        }

        /** Spends a minute on the WORK whose turn it is. */
        private int workOn(int m) {
            int[] due = works.traits[DUE];
            int turn = NONE;
            for (int work = 0; work < works.size; work++) {
                boolean isThere = left[work] > 0 && works.traits[COMES][work] <= m;
                if (isThere && (turn == NONE || due[work] < due[turn])) {
                    turn = work;
                }
            }
            if (turn != NONE) {
                left[turn]--;
            }
            return turn;
        }

        /**
         * Between two times of coming a later a makes more of the same WORKS, and between two due
         * times a sooner d does: so the greatest stands at a time of coming and a due time.
         */
        void findWhy() {
            int greatest = -FAR;
            whyFrom = NONE;
            whyTill = NONE;
            for (int i = 0; i < works.size; i++) {
                for (int j = 0; j < works.size; j++) {
                    int a = works.traits[COMES][i];
                    int d = works.traits[DUE][j];
                    int over = over(a, d);
                    if (over > greatest || (over == greatest && isSooner(a, d))) {
                        greatest = over;
                        whyFrom = a;
                        whyTill = d;
                    }
                }
            }
        }

        private boolean isSooner(int a, int d) {
            return a < whyFrom || (a == whyFrom && d < whyTill);
        }

        /** By how much the WORKS between a and d go beyond d; -FAR without such WORKS. */
        private int over(int a, int d) {
            int together = 0;
            for (int work = 0; work < works.size; work++) {
                if (works.traits[COMES][work] >= a && works.traits[DUE][work] <= d) {
                    together += works.traits[LONG][work];
                }
            }
            return together == 0 ? -FAR : a + together - d;
        }
    }

    /** The benches in a row with the WAYS between, and how an ORDER goes through them. */
    private static final class Row {
        final Works works;
        int size = LEAST_BENCHES;
        /** By bench the way ahead of it; bench 0 has none. */
        final int[] ways = {MOST_WAY, MOST_WAY, MOST_WAY, MOST_WAY};
        /** By place in the ORDER and bench. */
        private final int[][] begins = new int[MOST_WORKS][MOST_BENCHES];
        final int[][] leaves = new int[MOST_WORKS][MOST_BENCHES];

        Row(Works works) {
            this.works = works;
        }

        int lastEnd(int[] order) {
            int end = 0;
            for (int place = 0; place < works.size; place++) {
                end = send(place, order[place]);
            }
            return end;
        }

        /** Sends a WORK behind those of the places ahead of it: its END. */
        int send(int place, int work) {
            int done = 0;
            for (int bench = 0; bench < size; bench++) {
                int free = place == 0 ? 0 : leaves[place - 1][bench];
                begins[place][bench] = Math.max(done, free);
                if (bench > 0) {
                    leaves[place][bench - 1] = Math.max(done, roomAhead(place, bench));
                }
                done = begins[place][bench] + works.times[work][bench];
            }
            leaves[place][size - 1] = done;
            return done;
        }

        /**
         * The way ahead of a bench has room as the WORK so many places ahead begins there as the way
         * holds; with a way of 0 that is the WORK itself, that waits for the bench.
         */
        private int roomAhead(int place, int bench) {
            int other = place - ways[bench];
            return other < 0 ? 0 : begins[other][bench];
        }

        int timeBetween(int work, int from, int to) {
            int sum = 0;
            for (int bench = from; bench < to; bench++) {
                sum += works.times[work][bench];
            }
            return sum;
        }

        int notSooner() {
            int greatest = 0;
            for (int bench = 0; bench < size && works.size > 0; bench++) {
                greatest = Math.max(greatest, notSoonerBy(bench));
            }
            return greatest;
        }

        private int notSoonerBy(int bench) {
            int together = 0;
            int leastAhead = FAR;
            int leastBehind = FAR;
            for (int work = 0; work < works.size; work++) {
                together += works.times[work][bench];
                leastAhead = Math.min(leastAhead, timeBetween(work, 0, bench));
                leastBehind = Math.min(leastBehind, timeBetween(work, bench + 1, size));
            }
            return together + leastAhead + leastBehind;
        }

        long foldInto(long h) {
            h = fold(h, size);
            for (int bench = 1; bench < MOST_BENCHES; bench++) {
                h = fold(h, ways[bench]);
            }
            return h;
        }
    }

    /** BEST ROW: all ORDERS from the first as a row on, less those that can't be sooner. */
    private static final class BestInRow {
        final Works works;
        final Row row;
        final int[] order = new int[MOST_WORKS];
        int lastEnd;
        private int notSooner;
        private final int[] trial = new int[MOST_WORKS];
        /** By WORK and bench what it needs behind that bench. */
        private final int[][] behind = new int[MOST_WORKS][MOST_BENCHES];

        BestInRow(Works works, Row row) {
            this.works = works;
            this.row = row;
        }

        void seek() {
            for (int work = 0; work < works.size; work++) {
                for (int bench = 0; bench < row.size; bench++) {
                    behind[work][bench] = row.timeBetween(work, bench + 1, row.size);
                }
            }
            notSooner = row.notSooner();
            lastEnd = FAR;
            extend(0, 0, 0);
        }

        private void extend(int depth, int placed, int end) {
            if (depth >= works.size) {
                keepIfSooner(end);
                return;
            }
            for (int work = 0; work < works.size && lastEnd > notSooner; work++) {
                if (isIn(placed, work)) {
                    continue;
                }
                int with = placed | (1 << work);
                int ends = row.send(depth, work);
                if (endsAtLeast(depth, with, ends) < lastEnd) {
                    trial[depth] = work;
                    extend(depth + 1, with, ends);
                }
            }
        }

        private void keepIfSooner(int end) {
            if (end < lastEnd) {
                lastEnd = end;
                System.arraycopy(trial, 0, order, 0, works.size);
            }
        }

        /** Each bench has yet to do all that is left, and the last of these goes on behind it. */
        private int endsAtLeast(int place, int placed, int end) {
            if (placed == works.all()) {
                return end;
            }
            int greatest = end;
            for (int bench = 0; bench < row.size; bench++) {
                int together = row.leaves[place][bench];
                int leastBehind = FAR;
                for (int work = 0; work < works.size; work++) {
                    if (!isIn(placed, work)) {
                        together += works.times[work][bench];
                        leastBehind = Math.min(leastBehind, behind[work][bench]);
                    }
                }
                greatest = Math.max(greatest, together + leastBehind);
            }
            return greatest;
        }
    }

    /** BY THE RULE and ANY: what needs no search on benches 0 and 1. */
    private static final class RowRule {
        final Works works;
        final int[] order = new int[MOST_WORKS];

        RowRule(Works works) {
            this.works = works;
        }

        void putInOrder() {
            for (int work = 0; work < works.size; work++) {
                int at = work;
                while (at > 0 && goesAhead(work, order[at - 1])) {
                    order[at] = order[at - 1];
                    at--;
                }
                order[at] = work;
            }
        }

        private boolean goesAhead(int a, int b) {
            if (isShorterFirst(a) != isShorterFirst(b)) {
                return isShorterFirst(a);
            }
            return isShorterFirst(a)
                    ? works.times[a][0] < works.times[b][0]
                    : works.times[a][1] > works.times[b][1];
        }

        private boolean isShorterFirst(int work) {
            return works.times[work][0] < works.times[work][1];
        }

        int lastEnd() {
            int first = 0;
            int second = 0;
            for (int i = 0; i < works.size; i++) {
                first += works.times[order[i]][0];
                second = Math.max(first, second) + works.times[order[i]][1];
            }
            return second;
        }

        int inAnyOrder() {
            int first = 0;
            int second = 0;
            int both = 0;
            for (int work = 0; work < works.size; work++) {
                first += works.times[work][0];
                second += works.times[work][1];
                both = Math.max(both, works.times[work][0] + works.times[work][1]);
            }
            return Math.max(both, Math.max(first, second));
        }
    }

    /** TWO WORKS through the same benches. */
    private static final class TwoWorks {
        private static final int MOST_MINUTES = MOST_STEPS * LONGEST_STEP;
        final int[] sizes = new int[2];
        private final int[][] benchOf = new int[2][MOST_STEPS];
        private final int[][] minutesOf = new int[2][MOST_STEPS];
        /** The bench for the minute from here to the next one. */
        private final int[][] minuteOn = new int[2][MOST_MINUTES];
        /** The bench that is held here, within a STEP; NONE between STEPS. */
        private final int[][] held = new int[2][MOST_MINUTES + 1];
        /** The fewest minutes to where the first is, and to one minute sooner, by where the second is. */
        private final int[][] fewest = new int[2][MOST_MINUTES + 1];

        int add(int which, int bench, int minutes) {
            int at = sizes[which];
            benchOf[which][at] = bench;
            minutesOf[which][at] = minutes;
            sizes[which]++;
            return sizes[which];
        }

        int empty() {
            int was = sizes[0] + sizes[1];
            sizes[0] = 0;
            sizes[1] = 0;
            return was;
        }

        int fewestMinutes() {
            int first = layOut(0);
            int second = layOut(1);
            for (int x = 0; x <= first; x++) {
                for (int y = 0; y <= second; y++) {
                    fewest[x & 1][y] = fewestTo(x, y);
                }
            }
            return fewest[first & 1][second];
        }

        private int layOut(int which) {
            int at = 0;
            held[which][0] = NONE;
            for (int i = 0; i < sizes[which]; i++) {
                for (int m = 0; m < minutesOf[which][i]; m++) {
                    minuteOn[which][at] = benchOf[which][i];
                    at++;
                    held[which][at] = benchOf[which][i];
                }
                held[which][at] = NONE;
            }
            return at;
        }

        private int fewestTo(int x, int y) {
            if (x == 0 && y == 0) {
                return 0;
            }
            int[] here = fewest[x & 1];
            int[] sooner = fewest[(x + 1) & 1];
            int least = FAR;
            if (x > 0 && minuteOn[0][x - 1] != held[1][y]) {
                least = Math.min(least, sooner[y] + 1);
            }
            if (y > 0 && minuteOn[1][y - 1] != held[0][x]) {
                least = Math.min(least, here[y - 1] + 1);
            }
            if (x > 0 && y > 0 && minuteOn[0][x - 1] != minuteOn[1][y - 1]) {
                least = Math.min(least, sooner[y - 1] + 1);
            }
            return least;
        }

        long foldInto(long h) {
            for (int which = 0; which < 2; which++) {
                for (int i = 0; i < sizes[which]; i++) {
                    h = fold(h, benchOf[which][i]);
                    h = fold(h, minutesOf[which][i]);
                }
            }
            return h;
        }
    }

    /** A TREE of short WORKS on LIKE BENCHES. */
    private static final class Tree {
        /** Above every count of minutes. */
        private static final int NEVER = 100;
        int size;
        int likeBenches = 2;
        final int[] minuteOf = new int[MOST_LEAVES];
        private final int[] hangsOn = new int[MOST_LEAVES];
        private final int[] levelOf = new int[MOST_LEAVES];
        /** By the set of those done the fewest minutes for it. */
        private final byte[] fewest = new byte[1 << MOST_LEAVES];

        int add(int on) {
            int leaf = size;
            hangsOn[leaf] = on;
            levelOf[leaf] = on == NONE ? 1 : levelOf[on] + 1;
            size++;
            return leaf;
        }

        int empty() {
            int was = size;
            size = 0;
            return was;
        }

        private int all() {
            return (1 << size) - 1;
        }

        private int freeBehind(int done) {
            int waiting = 0;
            for (int leaf = 0; leaf < size; leaf++) {
                if (!isIn(done, leaf) && hangsOn[leaf] != NONE) {
                    waiting |= 1 << hangsOn[leaf];
                }
            }
            return all() & ~done & ~waiting;
        }

        int goByLevels() {
            int done = 0;
            int m = 0;
            // A minute does one short WORK at least, so there are no more minutes than these.
            while (m < MOST_LEAVES && done != all()) {
                int free = freeBehind(done);
                for (int bench = 0; bench < likeBenches && free != 0; bench++) {
                    int leaf = highestOf(free);
                    minuteOf[leaf] = m;
                    free &= ~(1 << leaf);
                    done |= 1 << leaf;
                }
                m++;
            }
            return m;
        }

        private int highestOf(int free) {
            int highest = Integer.numberOfTrailingZeros(free);
            for (int leaf = highest + 1; leaf < size; leaf++) {
                if (isIn(free, leaf) && levelOf[leaf] > levelOf[highest]) {
                    highest = leaf;
                }
            }
            return highest;
        }

        int leastMinutes() {
            Arrays.fill(fewest, 0, all() + 1, (byte) NEVER);
            fewest[0] = 0;
            // What is done only grows, so a set's number is above those that it is made from.
            for (int done = 0; done < all(); done++) {
                if (fewest[done] != NEVER) {
                    int free = freeBehind(done);
                    // To leave a bench idle that could do a free one never ends sooner.
                    takeFrom(done, free, Math.min(likeBenches, Integer.bitCount(free)), fewest[done] + 1);
                }
            }
            return fewest[all()];
        }

        /** Does so many of the free ones, in every way. */
        private void takeFrom(int done, int free, int toTake, int minutes) {
            if (toTake <= 0) {
                fewest[done] = (byte) Math.min(fewest[done], minutes);
                return;
            }
            int left = free;
            for (int leaf = 0; leaf < size; leaf++) {
                if (isIn(left, leaf)) {
                    left &= ~(1 << leaf);
                    takeFrom(done | (1 << leaf), left, toTake - 1, minutes);
                }
            }
        }

        int notSooner() {
            int greatest = 0;
            for (int level = 1; level <= size; level++) {
                int above = atOrAbove(level);
                if (above > 0) {
                    greatest = Math.max(greatest, level - 1 + cutUp(above));
                }
            }
            return greatest;
        }

        private int atOrAbove(int level) {
            int found = 0;
            for (int leaf = 0; leaf < size; leaf++) {
                if (levelOf[leaf] >= level) {
                    found++;
                }
            }
            return found;
        }

        private int cutUp(int many) {
            return likeBenches < 1 ? many : (many + likeBenches - 1) / likeBenches;
        }

        long foldInto(long h) {
            for (int leaf = 0; leaf < size; leaf++) {
                h = fold(h, hangsOn[leaf]);
            }
            return fold(h, likeBenches);
        }
    }
}
