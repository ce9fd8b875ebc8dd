import java.math.BigInteger;
import java.util.ArrayList;
import java.util.Arrays;
import java.util.Collections;
import java.util.HashMap;
import java.util.HashSet;
import java.util.List;
import java.util.Map;
import java.util.Set;
import java.util.TreeSet;

/** The document once more, in its plainest form and by other ways than the class goes: slow, with the whole library. */
final class Naive {
    static final int NONE = -1;
    static final int STRANGE = -1000001;

    static final class State {
        int rows = 1;
        int steps = 8;
        List<int[]> columns = new ArrayList<>();
        List<Integer> gains = new ArrayList<>();
        int[] need = new int[1];
        List<Integer> held = new ArrayList<>();

        State copy() {
            State s = new State();
            s.rows = rows;
            s.steps = steps;
            for (int[] c : columns) {
                s.columns.add(c.clone());
            }
            s.gains.addAll(gains);
            s.need = need.clone();
            s.held.addAll(held);
            return s;
        }
    }

    static final class Seen {
        int t;
        int[] sum;
        boolean is;
        int told;
        Integer untold;
    }

    State now = new State();
    State text = new State();
    State[] boxes = new State[2];
    List<State> undo = new ArrayList<>();
    List<State> redo = new ArrayList<>();
    List<Seen> seen = new ArrayList<>();
    int time;

    void load(State s) {
        now = s.copy();
        text = s.copy();
        boxes = new State[2];
        undo.clear();
        redo.clear();
        seen.clear();
    }

    static String textOf(State s) {
        StringBuilder b = new StringBuilder("rows " + s.rows + ";");
        for (int i = 0; i < s.columns.size(); i++) {
            b.append("column ").append((char) ('a' + i));
            for (int v : s.columns.get(i)) {
                b.append(v < 0 ? "" : " ").append(v);
            }
            b.append(" gain ").append(s.gains.get(i)).append(';');
        }
        b.append("need");
        for (int v : s.need) {
            b.append(' ').append(v);
        }
        return b.append(";steps ").append(s.steps).append(';').toString();
    }

    int n() {
        return now.columns.size();
    }

    boolean column(int c) {
        return c >= 0 && c < n();
    }

    boolean row(int r) {
        return r >= 0 && r < now.rows;
    }

    void act(State next) {
        undo.add(now);
        if (undo.size() > 20) {
            undo.remove(0);
        }
        redo.clear();
        now = next;
    }

    int number(int c, int r) {
        return column(c) && row(r) ? now.columns.get(c)[r] : STRANGE;
    }

    int gain(int c) {
        return column(c) ? now.gains.get(c) : STRANGE;
    }

    int need(int r) {
        return row(r) ? now.need[r] : STRANGE;
    }

    int change(int c, int r, int v) {
        if (!column(c) || !row(r) || v < -5 || v > 5 || v == number(c, r)) {
            return STRANGE;
        }
        State s = now.copy();
        int was = s.columns.get(c)[r];
        s.columns.get(c)[r] = v;
        act(s);
        return was;
    }

    int worth(int c, int v) {
        if (!column(c) || v < -99 || v > 99 || v == gain(c)) {
            return STRANGE;
        }
        State s = now.copy();
        int was = s.gains.set(c, v);
        act(s);
        return was;
    }

    int want(int r, int v) {
        if (!row(r) || v < -20 || v > 20 || v == need(r)) {
            return STRANGE;
        }
        State s = now.copy();
        int was = s.need[r];
        s.need[r] = v;
        act(s);
        return was;
    }

    int allow(int steps) {
        if (steps < 1 || steps > 12 || steps == now.steps) {
            return STRANGE;
        }
        State s = now.copy();
        int was = s.steps;
        s.steps = steps;
        act(s);
        return was;
    }

    int hold(int c, int often) {
        if (!column(c) || often < 0 || often > 99 || often == now.held.get(c)) {
            return NONE;
        }
        State s = now.copy();
        int was = s.held.set(c, often);
        act(s);
        return was;
    }

    int better(int r) {
        int[][] best = bestExchange(r);
        if (best == null) {
            return STRANGE;
        }
        State s = now.copy();
        for (int c = 0; c < n(); c++) {
            s.held.set(c, s.held.get(c) - best[0][c] + best[1][c]);
        }
        act(s);
        return holding(3);
    }

    boolean undo() {
        if (undo.isEmpty()) {
            return false;
        }
        redo.add(now);
        now = undo.remove(undo.size() - 1);
        return true;
    }

    boolean redo() {
        if (redo.isEmpty()) {
            return false;
        }
        undo.add(now);
        now = redo.remove(redo.size() - 1);
        return true;
    }

    int held(int c) {
        return column(c) ? now.held.get(c) : NONE;
    }

    int[] sumOf(int[] plan, State s) {
        int[] sum = new int[s.rows];
        for (int c = 0; c < s.columns.size(); c++) {
            for (int r = 0; r < s.rows; r++) {
                sum[r] += plan[c] * s.columns.get(c)[r];
            }
        }
        return sum;
    }

    int gainOf(int[] plan) {
        int sum = 0;
        for (int c = 0; c < n(); c++) {
            sum += plan[c] * now.gains.get(c);
        }
        return sum;
    }

    int distance(int[] sum) {
        int far = 0;
        for (int r = 0; r < now.rows; r++) {
            far += Math.abs(sum[r] - now.need[r]);
        }
        return far;
    }

    int holding(int what) {
        int[] plan = now.held.stream().mapToInt(x -> x).toArray();
        switch (what) {
            case 0: case 1: case 2:
                return row(what) ? sumOf(plan, now)[what] : STRANGE;
            case 3:
                return gainOf(plan);
            case 4:
                return Arrays.stream(plan).sum();
            case 5:
                return distance(sumOf(plan, now));
            default:
                return STRANGE;
        }
    }

    static void plansOf(int[] plan, int c, int left, List<int[]> into) {
        if (c == plan.length) {
            if (left == 0) {
                into.add(plan.clone());
            }
            return;
        }
        for (int k = left; k >= 0; k--) {
            plan[c] = k;
            plansOf(plan, c + 1, left - k, into);
        }
        plan[c] = 0;
    }

    static List<int[]> plansOf(int columns, int steps) {
        List<int[]> into = new ArrayList<>();
        plansOf(new int[columns], 0, steps, into);
        return into;
    }

    int[][] bestExchange(int r) {
        if (r < 1 || r > 3) {
            return null;
        }
        int[][] best = null;
        int most = 0;
        for (int out = 0; out <= r; out++) {
            for (int in = 0; in <= r; in++) {
                for (int[] a : plansOf(n(), out)) {
                    for (int[] b : plansOf(n(), in)) {
                        boolean fine = Arrays.equals(sumOf(a, now), sumOf(b, now));
                        for (int c = 0; c < n(); c++) {
                            int h = now.held.get(c);
                            fine &= a[c] <= h && h - a[c] + b[c] <= 99;
                        }
                        int gained = gainOf(b) - gainOf(a);
                        if (fine && gained > most) {
                            most = gained;
                            best = new int[][] {a, b};
                        }
                    }
                }
            }
        }
        return best;
    }

    int exchange(int r, int what) {
        int[][] best = bestExchange(r);
        if (best == null) {
            return STRANGE;
        }
        if (what == 0) {
            return gainOf(best[1]) - gainOf(best[0]);
        }
        if (what == 1 || what == 2) {
            return Arrays.stream(best[what - 1]).sum();
        }
        long c = (long) what - 10;
        return c >= 0 && c < n() ? best[1][(int) c] - best[0][(int) c] : STRANGE;
    }

    static List<Integer> list(int[] a) {
        List<Integer> l = new ArrayList<>();
        for (int v : a) {
            l.add(v);
        }
        return l;
    }

    List<Integer> plus(List<Integer> sum, int[] column) {
        List<Integer> l = new ArrayList<>();
        for (int r = 0; r < sum.size(); r++) {
            l.add(sum.get(r) + column[r]);
        }
        return l;
    }

    boolean within(List<Integer> sum, int t, int w, int k) {
        return stray(sum, t, k) <= w * t;
    }

    int stray(List<Integer> sum, int t, int k) {
        int most = 0;
        for (int r = 0; r < now.rows; r++) {
            most = Math.max(most, Math.abs(t * sum.get(r) - k * now.need[r]));
        }
        return most;
    }

    /** Of each k the sums, each with how many walks have it. */
    List<Map<List<Integer>, Long>> table(int t, int w) {
        List<Map<List<Integer>, Long>> all = new ArrayList<>();
        Map<List<Integer>, Long> at = new HashMap<>();
        at.put(list(new int[now.rows]), 1L);
        all.add(at);
        for (int k = 1; k <= t; k++) {
            Map<List<Integer>, Long> next = new HashMap<>();
            for (Map.Entry<List<Integer>, Long> e : at.entrySet()) {
                for (int[] c : now.columns) {
                    List<Integer> sum = plus(e.getKey(), c);
                    if (within(sum, t, w, k)) {
                        next.merge(sum, e.getValue(), Long::sum);
                    }
                }
            }
            all.add(next);
            at = next;
        }
        return all;
    }

    static boolean stripThere(int t, int w) {
        return t >= 0 && t <= 12 && w >= 0 && w <= 12;
    }

    int strip(int t, int w, int what) {
        if (!stripThere(t, w) || what < 0 || what > 1) {
            return NONE;
        }
        List<Map<List<Integer>, Long>> all = table(t, w);
        if (what == 0) {
            return all.get(t).containsKey(list(now.need)) ? 1 : 0;
        }
        int states = 0;
        for (Map<List<Integer>, Long> m : all) {
            states += m.size();
        }
        return states;
    }

    long walks(int t, int w) {
        return stripThere(t, w) ? table(t, w).get(t).getOrDefault(list(now.need), 0L) : -1;
    }

    /** The best walk that leads from a sum behind k steps on, its gain in front; an empty one if there is none. */
    List<Integer> suffix(int t, int w, int k, List<Integer> sum, Map<List<Integer>, List<Integer>> memo) {
        if (!within(sum, t, w, k)) {
            return List.of();
        }
        if (k == t) {
            return sum.equals(list(now.need)) ? List.of(0) : List.of();
        }
        List<Integer> key = new ArrayList<>(sum);
        key.add(k);
        List<Integer> known = memo.get(key);
        if (known != null) {
            return known;
        }
        List<Integer> best = List.of();
        for (int c = 0; c < n(); c++) {
            List<Integer> rest = suffix(t, w, k + 1, plus(sum, now.columns.get(c)), memo);
            if (!rest.isEmpty() && (best.isEmpty() || rest.get(0) + gain(c) > best.get(0))) {
                best = new ArrayList<>(rest);
                best.set(0, rest.get(0) + gain(c));
                best.add(1, c);
            }
        }
        memo.put(key, best);
        return best;
    }

    List<Integer> bestWalk(int t, int w) {
        return stripThere(t, w) ? suffix(t, w, 0, list(new int[now.rows]), new HashMap<>()) : List.of();
    }

    int best(int t, int w) {
        List<Integer> walk = bestWalk(t, w);
        return walk.isEmpty() ? STRANGE : walk.get(0);
    }

    int step(int t, int w, int i) {
        List<Integer> walk = bestWalk(t, w);
        return walk.isEmpty() || i < 0 || i >= t ? NONE : walk.get(i + 1);
    }

    int narrow(int t) {
        for (int w = 0; w <= 12; w++) {
            if (strip(t, w, 0) == 1) {
                return w;
            }
        }
        return NONE;
    }

    List<int[]> leading(int t) {
        List<int[]> some = new ArrayList<>();
        for (int[] p : plansOf(n(), t)) {
            if (Arrays.equals(sumOf(p, now), now.need)) {
                some.add(p);
            }
        }
        return some;
    }

    int fewest() {
        for (int t = 0; t <= 12; t++) {
            if (!leading(t).isEmpty()) {
                return t;
            }
        }
        return NONE;
    }

    int[] optimumPlan() {
        int[] best = null;
        for (int t = 0; t <= now.steps; t++) {
            for (int[] p : leading(t)) {
                if (best == null || gainOf(p) > gainOf(best)) {
                    best = p;
                }
            }
        }
        return best;
    }

    int optimum(int what) {
        int[] p = optimumPlan();
        if (p == null || what < 0 || what > 1) {
            return STRANGE;
        }
        return what == 0 ? gainOf(p) : Arrays.stream(p).sum();
    }

    int plan(int c) {
        int[] p = optimumPlan();
        return p == null || !column(c) ? NONE : p[c];
    }

    int plans(int t) {
        return t < 0 || t > 12 ? NONE : leading(t).size();
    }

    int walkStray(List<Integer> walk) {
        List<Integer> sum = list(new int[now.rows]);
        int most = 0;
        for (int k = 0; k < walk.size(); k++) {
            sum = plus(sum, now.columns.get(walk.get(k)));
            most = Math.max(most, stray(sum, walk.size(), k + 1));
        }
        return most;
    }

    /** Every limit from 0 on is tried by a search in order: the first walk found under the least one. */
    List<Integer> orderOf(int[] plan) {
        int t = Arrays.stream(plan).sum();
        for (int limit = 0;; limit++) {
            List<Integer> walk = new ArrayList<>();
            if (lay(plan.clone(), t, limit, list(new int[now.rows]), walk, new HashSet<>())) {
                return walk;
            }
        }
    }

    boolean lay(int[] left, int t, int limit, List<Integer> sum, List<Integer> walk, Set<List<Integer>> dead) {
        if (walk.size() == t) {
            return true;
        }
        if (dead.contains(list(left))) {
            return false;
        }
        for (int c = 0; c < left.length; c++) {
            if (left[c] > 0) {
                List<Integer> next = plus(sum, now.columns.get(c));
                if (stray(next, t, walk.size() + 1) <= limit) {
                    left[c]--;
                    walk.add(c);
                    if (lay(left, t, limit, next, walk, dead)) {
                        return true;
                    }
                    walk.remove(walk.size() - 1);
                    left[c]++;
                }
            }
        }
        dead.add(list(left));
        return false;
    }

    int order(int i) {
        int[] p = optimumPlan();
        List<Integer> walk = p == null ? List.of() : orderOf(p);
        return i >= 0 && i < walk.size() ? walk.get(i) : NONE;
    }

    int strays() {
        int[] p = optimumPlan();
        return p == null ? NONE : walkStray(orderOf(p));
    }

    int sorted() {
        int[] p = optimumPlan();
        if (p == null) {
            return NONE;
        }
        List<Integer> walk = new ArrayList<>();
        for (int c = 0; c < p.length; c++) {
            walk.addAll(Collections.nCopies(p[c], c));
        }
        return walkStray(walk);
    }

    boolean near(List<Integer> sum, int l, int i, int w) {
        int p = 1 << l - i;
        for (int r = 0; r < now.rows; r++) {
            if (Math.abs(p * sum.get(r) - now.need[r]) > w * p) {
                return false;
            }
        }
        return true;
    }

    int doubled(int l, int w, int what) {
        if (l < 0 || l > 4 || w < 0 || w > 3 || what < 0 || what > 5 || what < 5 && what > l) {
            return NONE;
        }
        List<Set<List<Integer>>> levels = new ArrayList<>();
        Set<List<Integer>> first = new HashSet<>();
        first.add(list(new int[now.rows]));
        for (int[] c : now.columns) {
            first.add(list(c));
        }
        first.removeIf(s -> !near(s, l, 0, w));
        levels.add(first);
        for (int i = 1; i <= l; i++) {
            Set<List<Integer>> next = new HashSet<>();
            for (List<Integer> a : levels.get(i - 1)) {
                for (List<Integer> b : levels.get(i - 1)) {
                    List<Integer> s = plus(a, b.stream().mapToInt(x -> x).toArray());
                    if (near(s, l, i, w)) {
                        next.add(s);
                    }
                }
            }
            levels.add(next);
        }
        return what < 5 ? levels.get(what).size() : levels.get(l).contains(list(now.need)) ? 1 : 0;
    }

    /** A fraction, the lower part above 0, in lowest terms. */
    static BigInteger[] frac(BigInteger a, BigInteger b) {
        BigInteger g = a.gcd(b).multiply(BigInteger.valueOf(b.signum()));
        return new BigInteger[] {a.divide(g), b.divide(g)};
    }

    static BigInteger[] frac(long a) {
        return frac(BigInteger.valueOf(a), BigInteger.ONE);
    }

    static BigInteger[] add(BigInteger[] a, BigInteger[] b) {
        return frac(a[0].multiply(b[1]).add(b[0].multiply(a[1])), a[1].multiply(b[1]));
    }

    static BigInteger[] mul(BigInteger[] a, BigInteger[] b) {
        return frac(a[0].multiply(b[0]), a[1].multiply(b[1]));
    }

    static BigInteger[] neg(BigInteger[] a) {
        return new BigInteger[] {a[0].negate(), a[1]};
    }

    /** Reduces lines of fractions to steps; answers the places of the leading ones. */
    static List<Integer> reduce(BigInteger[][][] m, int width) {
        List<Integer> leads = new ArrayList<>();
        int line = 0;
        for (int c = 0; c < width && line < m.length; c++) {
            int p = line;
            while (p < m.length && m[p][c][0].signum() == 0) {
                p++;
            }
            if (p == m.length) {
                continue;
            }
            BigInteger[][] kept = m[p];
            m[p] = m[line];
            m[line] = kept;
            BigInteger[] inverse = frac(kept[c][1], kept[c][0]);
            for (int x = 0; x < kept.length; x++) {
                kept[x] = mul(kept[x], inverse);
            }
            for (int o = 0; o < m.length; o++) {
                BigInteger[] f = neg(m[o][c]);
                for (int x = 0; x < kept.length && o != line; x++) {
                    m[o][x] = add(m[o][x], mul(f, kept[x]));
                }
            }
            leads.add(c);
            line++;
        }
        return leads;
    }

    List<Integer> membersOf(int set) {
        List<Integer> some = new ArrayList<>();
        for (int c = 0; c < n(); c++) {
            if ((set >> c & 1) == 1) {
                some.add(c);
            }
        }
        return some;
    }

    BigInteger[][][] lines(List<Integer> some) {
        BigInteger[][][] m = new BigInteger[now.rows][some.size() + 1][];
        for (int r = 0; r < now.rows; r++) {
            for (int i = 0; i < some.size(); i++) {
                m[r][i] = frac(now.columns.get(some.get(i))[r]);
            }
            m[r][some.size()] = frac(now.need[r]);
        }
        return m;
    }

    /** The plan of a corner, of each column a fraction; null if the set is none. */
    BigInteger[][] cornerPlan(int set) {
        List<Integer> some = membersOf(set);
        BigInteger[][][] m = lines(some);
        if (reduce(m, some.size()).size() < some.size()) {
            return null;
        }
        BigInteger[][] plan = new BigInteger[n()][];
        Arrays.fill(plan, frac(0));
        for (int r = 0; r < now.rows; r++) {
            BigInteger[] v = m[r][some.size()];
            if (r >= some.size()) {
                if (v[0].signum() != 0) {
                    return null;
                }
            } else if (v[0].signum() <= 0) {
                return null;
            } else {
                plan[some.get(r)] = v;
            }
        }
        return plan;
    }

    BigInteger[] gainOf(BigInteger[][] plan) {
        BigInteger[] sum = frac(0);
        for (int c = 0; c < n(); c++) {
            sum = add(sum, mul(plan[c], frac(gain(c))));
        }
        return sum;
    }

    int corners() {
        int count = 0;
        for (int set = 0; set < 1 << n(); set++) {
            count += cornerPlan(set) == null ? 0 : 1;
        }
        return count;
    }

    /** A least set that depends on itself with shares of one sign, which gains. */
    boolean gainsForNothing() {
        for (int set = 1; set < 1 << n(); set++) {
            List<Integer> some = membersOf(set);
            if (some.size() > now.rows + 1) {
                continue;
            }
            BigInteger[][][] m = lines(some);
            List<Integer> leads = reduce(m, some.size());
            if (leads.size() != some.size() - 1) {
                continue;
            }
            int free = 0;
            while (leads.contains(free)) {
                free++;
            }
            BigInteger[] gained = frac(gain(some.get(free)));
            boolean positive = true;
            for (int i = 0; i < leads.size(); i++) {
                BigInteger[] share = neg(m[i][free]);
                positive &= share[0].signum() > 0;
                gained = add(gained, mul(share, frac(gain(some.get(leads.get(i))))));
            }
            if (positive && gained[0].signum() > 0) {
                return true;
            }
        }
        return false;
    }

    int relaxedSet() {
        int best = -1;
        for (int set = 0; set < 1 << n(); set++) {
            BigInteger[][] p = cornerPlan(set);
            if (p != null && (best < 0 || add(gainOf(p), neg(gainOf(cornerPlan(best))))[0].signum() > 0)) {
                best = set;
            }
        }
        return best;
    }

    int relaxed(int what) {
        int set = relaxedSet();
        if (set < 0 || what < 0 || what > 3) {
            return STRANGE;
        }
        boolean endless = gainsForNothing();
        if (what == 3) {
            return endless ? 1 : 0;
        }
        if (endless) {
            return STRANGE;
        }
        return what == 2 ? set : gainOf(cornerPlan(set))[what].intValueExact();
    }

    int fraction(int c, int part) {
        int set = relaxedSet();
        if (set < 0 || gainsForNothing() || !column(c) || part < 0 || part > 1) {
            return STRANGE;
        }
        return cornerPlan(set)[c][part].intValueExact();
    }

    int apart(int part) {
        int set = relaxedSet();
        int[] plan = optimumPlan();
        if (set < 0 || plan == null || gainsForNothing() || part < 0 || part > 1) {
            return STRANGE;
        }
        BigInteger[] sum = frac(0);
        for (int c = 0; c < n(); c++) {
            BigInteger[] d = add(frac(plan[c]), neg(cornerPlan(set)[c]));
            sum = add(sum, d[0].signum() < 0 ? neg(d) : d);
        }
        return sum[part].intValueExact();
    }

    List<Integer> draws(int seed, int t) {
        List<Integer> walk = new ArrayList<>();
        for (int k = 0; k < t; k++) {
            seed = (137 * seed + 71) % 10007;
            walk.add(seed % n());
        }
        return walk;
    }

    int drawn(int seed, int t, int what) {
        if (seed < 0 || seed > 9999 || t < 0 || t > 12 || n() == 0 || what < 0 || what > 2) {
            return STRANGE;
        }
        List<Integer> walk = draws(seed, t);
        int[] plan = new int[n()];
        for (int c : walk) {
            plan[c]++;
        }
        return what == 0 ? walkStray(walk) : what == 1 ? gainOf(plan) : distance(sumOf(plan, now));
    }

    int chance(int t, int w) {
        if (!stripThere(t, w) || n() == 0) {
            return NONE;
        }
        int count = 0;
        for (int seed = 0; seed < 100; seed++) {
            count += walkStray(draws(seed, t)) <= w * t ? 1 : 0;
        }
        return count;
    }

    int seen(int t, int a, int b, int c, boolean is) {
        if (t < 0 || t > 8 || Math.abs((long) a) > 80 || Math.abs((long) b) > 80 || Math.abs((long) c) > 80 || seen.size() == 20) {
            return NONE;
        }
        Seen s = new Seen();
        s.t = t;
        s.sum = Arrays.copyOf(new int[] {a, b, c}, text.rows);
        s.is = is;
        s.told = time;
        seen.add(s);
        return seen.size() - 1;
    }

    boolean untell(int i) {
        if (i < 0 || i >= seen.size() || seen.get(i).untold != null) {
            return false;
        }
        seen.get(i).untold = time;
        return true;
    }

    int later(int by) {
        if (by < 0 || by > 1000 || time + by > 100000) {
            return NONE;
        }
        return time += by;
    }

    Set<List<Integer>> reachable(int turned, int t) {
        Set<List<Integer>> at = new HashSet<>();
        at.add(list(new int[text.rows]));
        for (int k = 0; k < t; k++) {
            Set<List<Integer>> next = new HashSet<>();
            for (List<Integer> s : at) {
                for (int c = 0; c < text.columns.size(); c++) {
                    int[] v = text.columns.get(c).clone();
                    for (int r = 0; r < v.length && c == turned; r++) {
                        v[r] = -v[r];
                    }
                    next.add(plus(s, v));
                }
            }
            at = next;
        }
        return at;
    }

    List<Integer> fitting(int k) {
        List<Integer> all = new ArrayList<>();
        for (int turned = -1; turned < text.columns.size(); turned++) {
            boolean fine = turned < 0 || Arrays.stream(text.columns.get(turned)).anyMatch(v -> v != 0);
            for (Seen s : seen) {
                if (s.told <= k && (s.untold == null || s.untold > k)) {
                    fine = fine && reachable(turned, s.t).contains(list(s.sum)) == s.is;
                }
            }
            if (fine) {
                all.add(turned);
            }
        }
        return all;
    }

    int fits(int k) {
        return fitting(k).size();
    }

    int fit(int i, int k) {
        List<Integer> all = fitting(k);
        return i >= 0 && i < all.size() ? all.get(i) : -2;
    }

    int ask(int t, int what, int k) {
        List<Integer> all = fitting(k);
        if (t < 0 || t > 8 || what < 0 || what > 1 || all.isEmpty()) {
            return STRANGE;
        }
        List<Set<Integer>> firsts = new ArrayList<>();
        for (int turned : all) {
            Set<Integer> f = new TreeSet<>();
            for (List<Integer> s : reachable(turned, t)) {
                f.add(s.get(0));
            }
            firsts.add(f);
        }
        int bestV = 0;
        int least = 1000;
        for (int v = -20; v <= 20; v++) {
            int with = 0;
            for (Set<Integer> f : firsts) {
                with += f.contains(v) ? 1 : 0;
            }
            int left = Math.max(with, all.size() - with);
            if (left < least) {
                least = left;
                bestV = v;
            }
        }
        return what == 0 ? bestV : least;
    }

    int image(int box) {
        if (box != 0 && box != 1) {
            return NONE;
        }
        boxes[box] = now.copy();
        return n();
    }

    int back(int box) {
        if (box != 0 && box != 1 || boxes[box] == null) {
            return NONE;
        }
        now = boxes[box].copy();
        undo.clear();
        redo.clear();
        return n();
    }

    int about(int what) {
        switch (what) {
            case 0:
                return now.rows;
            case 1:
                return n();
            case 2:
                return now.steps;
            case 3:
                return now.columns.stream().flatMapToInt(Arrays::stream).map(Math::abs).max().orElse(0);
            case 4:
                return undo.size();
            case 5:
                return redo.size();
            case 6:
                return seen.size();
            case 7:
                return time;
            case 8:
                return 0;
            default:
                return NONE;
        }
    }
}
