import java.util.ArrayDeque;
import java.util.ArrayList;
import java.util.Arrays;
import java.util.Collections;
import java.util.HashMap;
import java.util.HashSet;
import java.util.List;
import java.util.Map;
import java.util.Set;
import java.util.function.ToIntFunction;

/**
 * The document in its plainest form: every ORDER is tried, every minute is lived through.
 * It shares no line with the class that it judges.
 */
final class Model {
    static final class Work {
        int length, comes = 0, due = 300, weight = 1, tool = 0;
        int[] needs = {1, 1, 1, 1};
        Set<Integer> ahead = new HashSet<>();
    }

    final List<Work> works = new ArrayList<>();
    final int[][] changes = new int[3][3];
    final List<Integer> told = new ArrayList<>();
    int benches = 2;
    final int[] ways = {9, 9, 9, 9};
    final List<List<int[]>> steps = List.of(new ArrayList<>(), new ArrayList<>());
    final List<Integer> hangs = new ArrayList<>();
    int likes = 2;

    private static boolean out(int v, int least, int most) {
        return v < least || v > most;
    }

    private boolean noWork(int w) {
        return out(w, 0, works.size() - 1);
    }

    int work(int length) {
        if (out(length, 1, 40)) return -2;
        if (works.size() == 8) return -4;
        Work w = new Work();
        w.length = length;
        w.needs[0] = length;
        works.add(w);
        return works.size() - 1;
    }

    int put(int work, int what, int v) {
        if (noWork(work)) return -2;
        Work w = works.get(work);
        int was;
        if (what == 0 && !out(v, 1, 40)) { was = w.length; w.length = v; return was; }
        if (what == 1 && !out(v, 0, 99)) { was = w.comes; w.comes = v; return was; }
        if (what == 2 && !out(v, 0, 300)) { was = w.due; w.due = v; return was; }
        if (what == 3 && !out(v, 0, 20)) { was = w.weight; w.weight = v; return was; }
        if (what == 4 && !out(v, 0, 2)) { was = w.tool; w.tool = v; return was; }
        return -2;
    }

    private boolean leads(int a, int b) {
        for (int c : works.get(b).ahead) {
            if (c == a || leads(a, c)) return true;
        }
        return false;
    }

    int ahead(int a, int b, boolean is) {
        if (noWork(a) || noWork(b) || a == b) return -2;
        Set<Integer> before = works.get(b).ahead;
        if (before.contains(a) == is) return -3;
        if (leads(b, a)) return -3;
        if (is) before.add(a); else before.remove(a);
        return 1;
    }

    int change(int from, int to, int v) {
        if (out(from, 0, 2) || out(to, 0, 2) || from == to || out(v, 0, 20)) return -2;
        int was = changes[from][to];
        changes[from][to] = v;
        return was;
    }

    private int[] ends(List<Integer> order, boolean plain) {
        int[] ends = new int[works.size()];
        int now = 0;
        for (int i = 0; i < order.size(); i++) {
            Work w = works.get(order.get(i));
            if (!plain && i > 0) now += changes[works.get(order.get(i - 1)).tool][w.tool];
            if (!plain) while (now < w.comes) now++;
            now += w.length;
            ends[order.get(i)] = now;
        }
        return ends;
    }

    private int made(int aim, List<Integer> order, boolean plain) {
        int[] ends = ends(order, plain);
        int last = 0, sum = 0, lates = 0, greatest = 0, late = 0;
        for (int i = 0; i < works.size(); i++) {
            Work w = works.get(i);
            int l = Math.max(0, ends[i] - w.due);
            last = Math.max(last, ends[i]);
            sum += w.weight * ends[i];
            lates += w.weight * l;
            greatest = Math.max(greatest, l);
            if (l > 0) late += w.weight;
        }
        return new int[] {last, sum, lates, greatest, late}[aim];
    }

    private boolean lawful(List<Integer> order) {
        for (int i = 0; i < order.size(); i++) {
            for (int a : works.get(order.get(i)).ahead) {
                if (order.indexOf(a) > i) return false;
            }
        }
        return true;
    }

    /** All orders of 0 .. n-1, the first as a row first. */
    private static final Map<Integer, List<List<Integer>>> ORDERS = new HashMap<>();

    static List<List<Integer>> orders(int n) {
        return ORDERS.computeIfAbsent(n, k -> {
            List<List<Integer>> all = new ArrayList<>();
            spread(k, new ArrayList<>(), all);
            return all;
        });
    }

    private static void spread(int n, List<Integer> head, List<List<Integer>> all) {
        if (head.size() == n) {
            all.add(new ArrayList<>(head));
            return;
        }
        for (int i = 0; i < n; i++) {
            if (!head.contains(i)) {
                head.add(i);
                spread(n, head, all);
                head.remove(head.size() - 1);
            }
        }
    }

    private int first(int what, boolean lawfulOnly, ToIntFunction<List<Integer>> makes) {
        List<Integer> best = null;
        int least = Integer.MAX_VALUE;
        for (List<Integer> o : orders(works.size())) {
            if (lawfulOnly && !lawful(o)) continue;
            int v = makes.applyAsInt(o);
            if (v < least) {
                least = v;
                best = o;
            }
        }
        return what == -1 ? least : best.get(what);
    }

    int best(int aim, int what) {
        if (out(aim, 0, 4) || out(what, -1, works.size() - 1)) return -10;
        return first(what, true, o -> made(aim, o, false));
    }

    /** What LAST FIRST must reach, as no ORDER has a lesser greatest LATE without COMES and CHANGES. */
    int leastGreatestLate() {
        return first(-1, true, o -> made(3, o, true));
    }

    int lastFirst(int what) {
        if (out(what, -1, works.size() - 1)) return -10;
        List<Integer> left = new ArrayList<>();
        for (int i = 0; i < works.size(); i++) left.add(i);
        List<Integer> order = new ArrayList<>();
        while (!left.isEmpty()) {
            int end = 0;
            for (int w : left) end += works.get(w).length;
            int pick = -1, least = Integer.MAX_VALUE;
            for (int w : left) {
                boolean followed = false;
                for (int f : left) followed |= works.get(f).ahead.contains(w);
                int late = Math.max(0, end - works.get(w).due);
                if (!followed && late <= least) {
                    least = late;
                    pick = w;
                }
            }
            order.add(0, pick);
            left.remove((Integer) pick);
        }
        return what == -1 ? made(3, order, true) : order.get(what);
    }

    int onTime() {
        List<Integer> byDue = new ArrayList<>();
        for (int i = 0; i < works.size(); i++) byDue.add(i);
        byDue.sort((a, b) -> works.get(a).due != works.get(b).due
                ? Integer.compare(works.get(a).due, works.get(b).due) : Integer.compare(a, b));
        List<Integer> stay = new ArrayList<>();
        for (int w : byDue) {
            stay.add(w);
            int end = 0;
            for (int s : stay) end += works.get(s).length;
            if (end > works.get(w).due) {
                int longest = 0;
                for (int s : stay) longest = Math.max(longest, works.get(s).length);
                int out = -1;
                for (int s : stay) if (works.get(s).length == longest) out = s;
                stay.remove((Integer) out);
            }
        }
        int bits = 0;
        for (int s : stay) bits += 1 << s;
        return bits;
    }

    /** How many WORKS can be on time at most, by all sets. */
    int mostOnTime() {
        int most = 0;
        for (int set = 0; set < 1 << works.size(); set++) {
            List<Work> some = new ArrayList<>();
            for (int i = 0; i < works.size(); i++) if ((set >> i & 1) == 1) some.add(works.get(i));
            some.sort((a, b) -> Integer.compare(a.due, b.due));
            int end = 0;
            boolean fits = true;
            for (Work w : some) {
                end += w.length;
                fits &= end <= w.due;
            }
            if (fits) most = Math.max(most, some.size());
        }
        return most;
    }

    private int[] minutes() {
        int[] row = new int[1000];
        int[] left = new int[works.size()];
        for (int i = 0; i < left.length; i++) left[i] = works.get(i).length;
        for (int m = 0; m < 1000; m++) {
            row[m] = -1;
            for (int i = 0; i < left.length; i++) {
                if (left[i] > 0 && works.get(i).comes <= m
                        && (row[m] == -1 || works.get(i).due < works.get(row[m]).due)) row[m] = i;
            }
            if (row[m] >= 0) left[row[m]]--;
        }
        return row;
    }

    int broken(int what) {
        if (out(what, 0, 2)) return -2;
        int[] row = minutes();
        int late = 0;
        for (int m = 0; m < 1000; m++) if (row[m] >= 0) late = Math.max(late, m + 1 - works.get(row[m]).due);
        if (what == 0) return late;
        if (late == 0) return -1;
        return why()[what];
    }

    int[] why() {
        int[] why = {Integer.MIN_VALUE, -1, -1};
        for (int a = 0; a <= 99; a++) {
            for (int d = 0; d <= 300; d++) {
                int sum = 0;
                for (Work w : works) if (w.comes >= a && w.due <= d) sum += w.length;
                if (sum > 0 && a + sum - d > why[0]) why = new int[] {a + sum - d, a, d};
            }
        }
        return why;
    }

    int minute(int m) {
        return out(m, 0, 999) ? -10 : minutes()[m];
    }

    int next(int work) {
        if (noWork(work) || told.contains(work)) return -2;
        told.add(work);
        return told.size();
    }

    int anew() {
        int was = told.size();
        told.clear();
        return was;
    }

    int judge(int aim) {
        if (out(aim, 0, 5)) return -10;
        if (told.size() < works.size()) return -20;
        if (aim == 5) return through(told, benches, ways);
        return lawful(told) ? made(aim, told, false) : -20;
    }

    int benches(int n) {
        if (out(n, 2, 4)) return -2;
        int was = benches;
        benches = n;
        return was;
    }

    int needs(int work, int bench, int v) {
        if (noWork(work) || out(bench, 0, 3) || out(v, 1, 40)) return -2;
        int was = works.get(work).needs[bench];
        works.get(work).needs[bench] = v;
        return was;
    }

    int way(int bench, int v) {
        if (out(bench, 1, 3) || out(v, 0, 9)) return -2;
        int was = ways[bench];
        ways[bench] = v;
        return was;
    }

    /** The row minute by minute: who stands on which bench, who waits in which way. */
    int through(List<Integer> order, int benches, int[] ways) {
        int[] on = new int[benches];
        int[] left = new int[benches];
        Arrays.fill(on, -1);
        List<ArrayDeque<Integer>> waiting = new ArrayList<>();
        for (int b = 0; b < benches; b++) waiting.add(new ArrayDeque<>());
        waiting.get(0).addAll(order);
        int gone = 0;
        for (int t = 0;; t++) {
            boolean moved = true;
            while (moved) {
                moved = false;
                for (int b = benches - 1; b >= 0; b--) {
                    if (on[b] >= 0 && left[b] == 0) {
                        if (b == benches - 1) {
                            on[b] = -1;
                            gone++;
                            moved = true;
                        } else if (ways[b + 1] == 0) {
                            if (on[b + 1] < 0) {
                                on[b + 1] = on[b];
                                left[b + 1] = works.get(on[b]).needs[b + 1];
                                on[b] = -1;
                                moved = true;
                            }
                        } else if (waiting.get(b + 1).size() < ways[b + 1]) {
                            waiting.get(b + 1).add(on[b]);
                            on[b] = -1;
                            moved = true;
                        }
                    }
                    if (on[b] < 0 && !waiting.get(b).isEmpty()) {
                        on[b] = waiting.get(b).poll();
                        left[b] = works.get(on[b]).needs[b];
                        moved = true;
                    }
                }
            }
            if (gone == order.size()) return t;
            for (int b = 0; b < benches; b++) if (on[b] >= 0 && left[b] > 0) left[b]--;
        }
    }

    int byRule(int what) {
        if (out(what, -1, works.size() - 1)) return -10;
        List<Integer> order = new ArrayList<>();
        List<Integer> others = new ArrayList<>();
        for (int i = 0; i < works.size(); i++) {
            (works.get(i).needs[0] < works.get(i).needs[1] ? order : others).add(i);
        }
        order.sort((a, b) -> Integer.compare(works.get(a).needs[0], works.get(b).needs[0]));
        others.sort((a, b) -> Integer.compare(works.get(b).needs[1], works.get(a).needs[1]));
        order.addAll(others);
        return what == -1 ? through(order, 2, new int[] {9, 9}) : order.get(what);
    }

    int bestRow(int what) {
        if (out(what, -1, works.size() - 1)) return -10;
        return first(what, false, o -> through(o, benches, ways));
    }

    int bound() {
        if (works.isEmpty()) return 0;
        int bound = 0;
        for (int b = 0; b < benches; b++) {
            int sum = 0;
            List<Integer> ahead = new ArrayList<>();
            List<Integer> behind = new ArrayList<>();
            for (Work w : works) {
                sum += w.needs[b];
                int a = 0, z = 0;
                for (int c = 0; c < b; c++) a += w.needs[c];
                for (int c = b + 1; c < benches; c++) z += w.needs[c];
                ahead.add(a);
                behind.add(z);
            }
            bound = Math.max(bound, sum + Collections.min(ahead) + Collections.min(behind));
        }
        return bound;
    }

    int any() {
        int most = 0, first = 0, second = 0;
        for (Work w : works) {
            first += w.needs[0];
            second += w.needs[1];
            most = Math.max(most, w.needs[0] + w.needs[1]);
        }
        return Math.max(most, Math.max(first, second));
    }

    int step(int which, int bench, int minutes) {
        if (out(which, 0, 1) || out(bench, 0, 5) || out(minutes, 1, 20)) return -2;
        if (steps.get(which).size() == 6) return -4;
        steps.get(which).add(new int[] {bench, minutes});
        return steps.get(which).size();
    }

    int clear() {
        int was = steps.get(0).size() + steps.get(1).size();
        steps.get(0).clear();
        steps.get(1).clear();
        return was;
    }

    /** Which bench one of TWO WORKS takes up for a minute: by being at work, or within a STEP. */
    private int takes(int which, int step, int spent, boolean goes) {
        boolean isWithin = spent > 0;
        return goes || isWithin ? steps.get(which).get(step)[0] : -1 - which;
    }

    int walk() {
        Set<List<Integer>> seen = new HashSet<>();
        List<List<Integer>> now = List.of(List.of(0, 0, 0, 0));
        for (int t = 0;; t++) {
            List<List<Integer>> then = new ArrayList<>();
            for (List<Integer> s : now) {
                if (s.get(0) == steps.get(0).size() && s.get(2) == steps.get(1).size()) return t;
                for (int go = 1; go < 4; go++) {
                    boolean goes0 = (go & 1) != 0, goes1 = (go & 2) != 0;
                    if (goes0 && s.get(0) == steps.get(0).size()) continue;
                    if (goes1 && s.get(2) == steps.get(1).size()) continue;
                    if (takes(0, s.get(0), s.get(1), goes0) == takes(1, s.get(2), s.get(3), goes1)) continue;
                    int i = s.get(0), a = s.get(1), j = s.get(2), b = s.get(3);
                    if (goes0 && ++a == steps.get(0).get(i)[1]) { i++; a = 0; }
                    if (goes1 && ++b == steps.get(1).get(j)[1]) { j++; b = 0; }
                    List<Integer> after = List.of(i, a, j, b);
                    if (seen.add(after)) then.add(after);
                }
            }
            now = then;
        }
    }

    /** The pairs of STEPS, one of each, that need the same bench. */
    List<int[]> meetings() {
        List<int[]> pairs = new ArrayList<>();
        for (int i = 0; i < steps.get(0).size(); i++) {
            for (int j = 0; j < steps.get(1).size(); j++) {
                if (steps.get(0).get(i)[0] == steps.get(1).get(j)[0]) pairs.add(new int[] {i, j});
            }
        }
        return pairs;
    }

    /** What THE WALK must reach: the least last END over all choices of who is first where both need a bench. */
    int leastByTurns() {
        List<int[]> pairs = meetings();
        int least = Integer.MAX_VALUE;
        for (int turns = 0; turns < 1 << pairs.size(); turns++) {
            least = Math.min(least, lastEndByTurns(pairs, turns));
        }
        return least;
    }

    private int lastEndByTurns(List<int[]> pairs, int turns) {
        int[][] ends = {new int[steps.get(0).size()], new int[steps.get(1).size()]};
        // Ends only grow; those that still do behind so many rounds wait for each other round about.
        for (int round = 0; round < 14; round++) {
            boolean grows = false;
            for (int which = 0; which < 2; which++) {
                for (int i = 0; i < ends[which].length; i++) {
                    int begins = i == 0 ? 0 : ends[which][i - 1];
                    for (int k = 0; k < pairs.size(); k++) {
                        boolean isSecond = (turns >> k & 1) != which;
                        if (pairs.get(k)[which] == i && isSecond) {
                            begins = Math.max(begins, ends[1 - which][pairs.get(k)[1 - which]]);
                        }
                    }
                    int end = begins + steps.get(which).get(i)[1];
                    grows |= end > ends[which][i];
                    ends[which][i] = end;
                }
            }
            if (!grows) {
                int last = 0;
                for (int[] row : ends) for (int end : row) last = Math.max(last, end);
                return last;
            }
        }
        return Integer.MAX_VALUE;
    }

    int leaf(int on) {
        if (out(on, -1, hangs.size() - 1)) return -2;
        if (hangs.size() == 12) return -4;
        hangs.add(on);
        return hangs.size() - 1;
    }

    int fell() {
        int was = hangs.size();
        hangs.clear();
        return was;
    }

    int likes(int n) {
        if (out(n, 1, 4)) return -2;
        int was = likes;
        likes = n;
        return was;
    }

    private int level(int leaf) {
        return hangs.get(leaf) == -1 ? 1 : 1 + level(hangs.get(leaf));
    }

    private List<Integer> free(int done) {
        List<Integer> free = new ArrayList<>();
        for (int i = 0; i < hangs.size(); i++) {
            boolean is = (done >> i & 1) == 0;
            for (int j = 0; j < hangs.size(); j++) if (hangs.get(j) == i && (done >> j & 1) == 0) is = false;
            if (is) free.add(i);
        }
        return free;
    }

    int levels(int what) {
        if (out(what, -1, hangs.size() - 1)) return -10;
        int done = 0, all = (1 << hangs.size()) - 1, t = 0;
        int[] minute = new int[12];
        while (done != all) {
            List<Integer> free = free(done);
            free.sort((a, b) -> level(a) != level(b) ? level(b) - level(a) : a - b);
            for (int i = 0; i < Math.min(likes, free.size()); i++) {
                minute[free.get(i)] = t;
                done |= 1 << free.get(i);
            }
            t++;
        }
        return what == -1 ? t : minute[what];
    }

    int least(int what) {
        if (out(what, 0, 1)) return -2;
        return what == 0 ? leastMinutes() : notSooner();
    }

    /** All sets that can be done in t minutes, whatever is left idle. */
    private int leastMinutes() {
        int all = (1 << hangs.size()) - 1;
        Set<Integer> now = Set.of(0);
        for (int t = 0;; t++) {
            if (now.contains(all)) return t;
            Set<Integer> then = new HashSet<>();
            for (int done : now) {
                int free = 0;
                for (int f : free(done)) free |= 1 << f;
                for (int some = free; some != 0; some = (some - 1) & free) {
                    if (Integer.bitCount(some) <= likes) then.add(done | some);
                }
            }
            now = then;
        }
    }

    private int notSooner() {
        int greatest = 0;
        for (int i = 0; i < hangs.size(); i++) {
            int l = level(i), above = 0;
            for (int j = 0; j < hangs.size(); j++) if (level(j) >= l) above++;
            int minutes = 0;
            while (minutes * likes < above) minutes++;
            greatest = Math.max(greatest, l - 1 + minutes);
        }
        return greatest;
    }

    int count(int what) {
        if (out(what, 0, 4)) return -2;
        return new int[] {works.size(), told.size(), steps.get(0).size(), steps.get(1).size(), hangs.size()}[what];
    }

    long digest() {
        List<Integer> all = new ArrayList<>();
        for (int i = 0; i < 5; i++) all.add(count(i));
        for (Work w : works) {
            all.addAll(List.of(w.length, w.comes, w.due, w.weight, w.tool));
            int bits = 0;
            for (int a : w.ahead) bits += 1 << a;
            all.add(bits);
            for (int n : w.needs) all.add(n);
        }
        for (int[] from : changes) for (int c : from) all.add(c);
        all.addAll(told);
        all.add(benches);
        for (int b = 1; b <= 3; b++) all.add(ways[b]);
        for (List<int[]> row : steps) for (int[] s : row) all.addAll(List.of(s[0], s[1]));
        all.addAll(hangs);
        all.add(likes);
        long h = 401;
        for (int v : all) h = 31 * h + v;
        return h;
    }
}
