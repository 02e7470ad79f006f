import java.util.ArrayList;
import java.util.HashMap;
import java.util.List;
import java.util.Map;
import java.util.Random;

/** Promises 7 to 13: for few heights against all plans one by one, for many against plain recursions. */
public final class PlansTest {
    private static final long NONE = Long.MAX_VALUE / 4;

    /** A plan: where to drop, and what to do behind each outcome; sure where there is no step. */
    private static final class Plan {
        private final int step;
        private final Plan broken;
        private final Plan whole;

        Plan(int step, Plan broken, Plan whole) {
            this.step = step;
            this.broken = broken;
            this.whole = whole;
        }
    }

    private static final Map<Integer, List<Plan>> ALL = new HashMap<>();

    private static List<Plan> all(int lo, int hi, int j) {
        int key = (lo * 100 + hi) * 10 + j;
        List<Plan> plans = ALL.get(key);
        if (plans != null) {
            return plans;
        }
        plans = new ArrayList<>();
        if (lo == hi) {
            plans.add(new Plan(0, null, null));
        }
        for (int step = lo + 1; step <= hi && j > 0; step++) {
            for (Plan broken : all(lo, step - 1, j - 1)) {
                for (Plan whole : all(step, hi, j)) {
                    plans.add(new Plan(step, broken, whole));
                }
            }
        }
        ALL.put(key, plans);
        return plans;
    }

    /** What a plan comes to for one height: drops, breaks, steps trodden from a. */
    private static int[] told(Plan plan, int height, int a) {
        int[] sums = new int[3];
        int at = a;
        for (Plan p = plan; p.step != 0;) {
            sums[0]++;
            sums[2] += Math.abs(at - p.step);
            at = p.step;
            boolean broke = height < p.step;
            sums[1] += broke ? 1 : 0;
            p = broke ? p.broken : p.whole;
        }
        return sums;
    }

    private static void atWorst(Check check, int lo, int hi, int j, int a, int dropPrice, int jarPrice, TwoJars x) {
        long[] best = {NONE, NONE, NONE};
        int[] first = new int[3];
        for (Plan plan : all(lo, hi, j)) {
            long[] most = new long[3];
            for (int h = lo; h <= hi; h++) {
                int[] sums = told(plan, h, a);
                most[0] = Math.max(most[0], sums[0]);
                most[1] = Math.max(most[1], (long) sums[0] * dropPrice + (long) sums[1] * jarPrice);
                most[2] = Math.max(most[2], sums[2]);
            }
            for (int i = 0; i < 3; i++) {
                if (most[i] < best[i] || most[i] == best[i] && plan.step < first[i]) {
                    best[i] = most[i];
                    first[i] = plan.step;
                }
            }
        }
        int m = hi - lo + 1;
        int mj = 10 * m + j;
        String call = " of " + lo + " .. " + hi + " j " + j;
        check.due("worst" + call, x.worst(mj, 0), answered(best[0]));
        check.due("worst first" + call, x.worst(mj, 1), best[0] == NONE || m == 1 ? TwoJars.NOT : first[0] - lo);
        check.due("price" + call, x.price(mj, 0), answered(best[1]));
        check.due("price first" + call, x.price(mj, 1), best[1] == NONE || m == 1 ? TwoJars.NOT : first[1] - lo);
        check.due("trodden" + call + " from " + a, x.trodden(100 * lo + hi, 10 * a + j, 0), answered(best[2]));
        check.due("trodden first" + call + " from " + a, x.trodden(100 * lo + hi, 10 * a + j, 1),
            best[2] == NONE || m == 1 ? TwoJars.NOT : first[2]);
    }

    private static long answered(long best) {
        return best == NONE ? TwoJars.NOT : best;
    }

    private static void byMean(Check check, int lo, int hi, int j, TwoJars x) {
        long all = 0;
        for (int h = lo; h <= hi; h++) {
            all += x.weight(h);
        }
        boolean even = all == 0;
        all = even ? hi - lo + 1 : all;
        long best = NONE;
        int first = 0;
        for (Plan plan : all(lo, hi, j)) {
            long sum = 0;
            for (int h = lo; h <= hi; h++) {
                sum += (even ? 1 : x.weight(h)) * told(plan, h, 0)[0];
            }
            if (sum < best || sum == best && plan.step < first) {
                best = sum;
                first = plan.step;
            }
        }
        String call = " of " + lo + " .. " + hi + " j " + j;
        long common = best == NONE ? 1 : common(best, all);
        int span = 100 * lo + hi;
        check.due("mean above" + call, x.mean(span, j, 0), best == NONE ? TwoJars.NOT : best / common);
        check.due("mean below" + call, x.mean(span, j, 1), best == NONE ? TwoJars.NOT : all / common);
        check.due("mean first" + call, x.meanFirst(span, j), best == NONE || lo == hi ? TwoJars.NOT : first);
    }

    private static long common(long a, long b) {
        return b == 0 ? a : common(b, a % b);
    }

    private static void fewHeights(Check check) {
        Random random = new Random(5);
        String[] laws = {"1", "h", "0", "9-h", "h%2", "h%3*4", "h=7?9", "h<4?0;h%2*8", "h*h%7", "j", "n-h>3"};
        for (int i = 0; i < 400; i++) {
            TwoJars x = new TwoJars();
            int steps = 1 + random.nextInt(24);
            x.mend(0, steps);
            int dropPrice = random.nextInt(4) == 0 ? 0 : random.nextInt(10);
            int jarPrice = random.nextInt(4) == 0 ? 0 : random.nextInt(30);
            x.mend(2, dropPrice);
            x.mend(3, jarPrice);
            Check.law(x, laws[random.nextInt(laws.length)]);
            for (int k = 0; k < 12; k++) {
                int lo = random.nextInt(steps + 1);
                int hi = lo + random.nextInt(Math.min(8, steps + 1 - lo));
                int j = random.nextInt(7);
                atWorst(check, lo, hi, j, random.nextInt(steps + 1), dropPrice, jarPrice, x);
                byMean(check, lo, hi, j, x);
            }
        }
    }

    // ---- many heights

    private static long reached(int d, int j) {
        return d == 0 || j == 0 ? 1 : reached(d - 1, j - 1) + reached(d - 1, j);
    }

    private static void worstByReach(Check check) {
        TwoJars x = new TwoJars();
        for (int j = 1; j <= 6; j++) {
            for (int m = 2; m <= 61; m++) {
                int d = 1;
                while (d < m - 1 && (j == 1 ? d + 1 : reached(Math.min(d, 25), j)) < m) {
                    d++;
                }
                long most = j == 1 ? d : reached(Math.min(d - 1, 25), j);
                long first = Math.max(1, m - most);
                check.due("worst(" + (10 * m + j) + ", 0)", x.worst(10 * m + j, 0), d);
                check.due("worst(" + (10 * m + j) + ", 1)", x.worst(10 * m + j, 1), first);
            }
        }
        for (int j = 0; j <= 6; j++) {
            check.due("worst of one height", x.worst(10 + j, 0), 0);
            check.due("worst first of one height", x.worst(10 + j, 1), TwoJars.NOT);
            for (int d = 0; d <= 20; d++) {
                check.due("reach(" + (10 * d + j) + ")", x.reach(10 * d + j), reached(d, j));
            }
        }
        check.due("worst(20, 0)", x.worst(20, 0), TwoJars.NOT);
        check.due("worst(610, 1)", x.worst(610, 1), TwoJars.NOT);
    }

    private static final Map<Long, Long> MEMO = new HashMap<>();

    private static long meanSum(int[] weights, int lo, int hi, int j) {
        if (lo == hi) {
            return 0;
        }
        if (j == 0) {
            return NONE;
        }
        long key = (lo * 100L + hi) * 10 + j;
        Long known = MEMO.get(key);
        if (known != null) {
            return known;
        }
        long best = NONE;
        for (int step = lo + 1; step <= hi; step++) {
            best = Math.min(best, meanBy(weights, lo, hi, j, step));
        }
        MEMO.put(key, best);
        return best;
    }

    private static long meanBy(int[] weights, int lo, int hi, int j, int step) {
        long sum = meanSum(weights, lo, step - 1, j - 1);
        if (sum == NONE) {
            return NONE;
        }
        sum += meanSum(weights, step, hi, j);
        for (int h = lo; h <= hi; h++) {
            sum += weights[h];
        }
        return sum;
    }

    private static void meanOf(Check check, TwoJars x, int lo, int hi, int j) {
        int[] weights = new int[61];
        long all = 0;
        for (int h = lo; h <= hi; h++) {
            weights[h] = x.weight(h);
            all += weights[h];
        }
        if (all == 0) {
            java.util.Arrays.fill(weights, lo, hi + 1, 1);
            all = hi - lo + 1;
        }
        MEMO.clear();
        long best = meanSum(weights, lo, hi, j);
        int span = 100 * lo + hi;
        String call = " of " + span + ", " + j;
        long common = best == NONE ? 1 : common(best, all);
        check.due("mean above" + call, x.mean(span, j, 0), best == NONE ? TwoJars.NOT : best / common);
        check.due("mean below" + call, x.mean(span, j, 1), best == NONE ? TwoJars.NOT : all / common);
        int first = lo + 1;
        while (first <= hi && meanBy(weights, lo, hi, j, first) != best) {
            first++;
        }
        check.due("mean first" + call, x.meanFirst(span, j), best == NONE || lo == hi ? TwoJars.NOT : first);
    }

    /** One object whose law, steps and jars change all the time: nothing old may be left in its rows. */
    private static void meansThatChange(Check check) {
        Random random = new Random(9);
        String[] laws = {"1", "h", "0", "9-h/4", "h%2", "h>30", "h=7?9;h=40?5", "h*h%7", "h%10+n", "h<j*9?j", "h<20?3;h%5"};
        for (int run = 0; run < 12; run++) {
            TwoJars x = new TwoJars();
            for (int i = 0; i < 20; i++) {
                int way = random.nextInt(5);
                if (way == 0) {
                    Check.law(x, laws[random.nextInt(laws.length)]);
                } else if (way == 1) {
                    x.mend(0, 1 + random.nextInt(60));
                } else if (way == 2) {
                    x.mend(1, random.nextInt(7));
                } else if (way == 3) {
                    x.undo();
                } else {
                    x.redo();
                }
                int steps = x.of(0);
                int lo = random.nextInt(steps + 1);
                int hi = lo + random.nextInt(steps + 1 - lo);
                meanOf(check, x, lo, hi, random.nextInt(7));
            }
        }
    }

    /** Each call as the first one that looks at the weights, and behind a change of the jars alone. */
    private static void meansAtFirst(Check check) {
        TwoJars x = new TwoJars();
        Check.law(x, "h>15");
        check.due("meanFirst at first", x.meanFirst(20, 2), 16);
        TwoJars y = new TwoJars();
        Check.law(y, "h>15");
        check.due("mean at first", y.mean(20, 2, 0) * 100L + y.mean(20, 2, 1), 1705);
        TwoJars z = new TwoJars();
        Check.law(z, "j=0?h=9;h<3");
        for (int jars = 6; jars >= 0; jars--) {
            z.mend(1, jars);
            meanOf(check, z, 0, 20, 2);
            meanOf(check, z, 5, 15, 3);
        }
    }

    private static long troddenTo(int lo, int hi, int a, int j) {
        if (lo == hi) {
            return 0;
        }
        if (j == 0) {
            return NONE;
        }
        long key = ((lo * 100L + hi) * 100 + a) * 10 + j;
        Long known = MEMO.get(key);
        if (known != null) {
            return known;
        }
        long best = NONE;
        for (int step = lo + 1; step <= hi; step++) {
            best = Math.min(best, troddenBy(lo, hi, a, j, step));
        }
        MEMO.put(key, best);
        return best;
    }

    private static long troddenBy(int lo, int hi, int a, int j, int step) {
        long rest = Math.max(troddenTo(lo, step - 1, step, j - 1), troddenTo(step, hi, step, j));
        return rest == NONE ? NONE : rest + Math.abs(a - step);
    }

    private static void manyTrodden(Check check) {
        MEMO.clear();
        TwoJars x = new TwoJars();
        x.mend(0, 24);
        int[][] spans = {{0, 24}, {1, 24}, {3, 19}, {10, 23}, {0, 12}};
        for (int[] span : spans) {
            for (int j = 0; j <= 6; j++) {
                for (int a = 0; a <= 24; a += 4) {
                    long best = troddenTo(span[0], span[1], a, j);
                    int first = span[0] + 1;
                    while (first < span[1] && troddenBy(span[0], span[1], a, j, first) != best) {
                        first++;
                    }
                    int told = 100 * span[0] + span[1];
                    String call = "trodden(" + told + ", " + (10 * a + j);
                    check.due(call + ", 0)", x.trodden(told, 10 * a + j, 0), answered(best));
                    check.due(call + ", 1)", x.trodden(told, 10 * a + j, 1), best == NONE ? TwoJars.NOT : first);
                }
            }
        }
    }

    private static long priceOf(int m, int j, int drop, int jar) {
        if (m == 1) {
            return 0;
        }
        if (j == 0) {
            return NONE;
        }
        long key = m * 10L + j;
        Long known = MEMO.get(key);
        if (known != null) {
            return known;
        }
        long best = NONE;
        for (int k = 1; k < m; k++) {
            best = Math.min(best, priceBy(m, j, drop, jar, k));
        }
        MEMO.put(key, best);
        return best;
    }

    private static long priceBy(int m, int j, int drop, int jar, int k) {
        return drop + Math.max(jar + priceOf(k, j - 1, drop, jar), priceOf(m - k, j, drop, jar));
    }

    private static void manyPrices(Check check) {
        int[][] prices = {{1, 10}, {1, 0}, {0, 0}, {0, 7}, {99, 99}, {99, 1}, {3, 40}};
        TwoJars x = new TwoJars();
        for (int[] price : prices) {
            MEMO.clear();
            x.mend(2, price[0]);
            x.mend(3, price[1]);
            for (int m = 2; m <= 61; m += 3) {
                for (int j = 1; j <= 6; j++) {
                    long best = priceOf(m, j, price[0], price[1]);
                    int first = 1;
                    while (priceBy(m, j, price[0], price[1], first) != best) {
                        first++;
                    }
                    check.due("price of " + m + ", " + j, x.price(10 * m + j, 0), best);
                    check.due("price first of " + m + ", " + j, x.price(10 * m + j, 1), first);
                }
            }
        }
        x.undo();
        x.undo();
        check.due("price behind undo", x.price(212, 0), priceAfresh(21, 2, 99, 1));
        x.redo();
        check.due("price behind redo", x.price(212, 0), priceAfresh(21, 2, 3, 1));
    }

    private static long priceAfresh(int m, int j, int drop, int jar) {
        MEMO.clear();
        return priceOf(m, j, drop, jar);
    }

    // ---- two towers

    /** The fewest drops; how[0] is 1 if the first may be in tower 0, how[1] likewise. */
    private static long twoOf(int m1, int m2, int j, int[] how) {
        if (m1 == 1 && m2 == 1) {
            return 0;
        }
        if (j == 0) {
            return NONE;
        }
        long key = (m1 * 100L + m2) * 10 + j;
        Long known = MEMO.get(key);
        if (known != null && how == null) {
            return known;
        }
        long[] best = {NONE, NONE};
        for (int k = 1; k < m1; k++) {
            best[0] = Math.min(best[0], 1 + Math.max(twoOf(k, m2, j - 1, null), twoOf(m1 - k, m2, j, null)));
        }
        for (int k = 1; k < m2; k++) {
            best[1] = Math.min(best[1], 1 + Math.max(twoOf(m1, k, j - 1, null), twoOf(m1, m2 - k, j, null)));
        }
        long least = Math.min(NONE, Math.min(best[0], best[1]));
        if (how != null) {
            how[0] = best[0] <= least ? 1 : 0;
            how[1] = best[1] <= least ? 1 : 0;
        }
        MEMO.put(key, least);
        return least;
    }

    private static void towers(Check check) {
        MEMO.clear();
        TwoJars x = new TwoJars();
        for (int m1 = 1; m1 <= 31; m1++) {
            for (int m2 = 1; m2 <= 31; m2 += m1 < 8 ? 1 : 5) {
                for (int j = 0; j <= 6; j++) {
                    int[] how = new int[2];
                    long need = twoOf(m1, m2, j, how);
                    String call = "two(" + (100 * m1 + m2) + ", " + j;
                    check.due(call + ", 0)", x.two(100 * m1 + m2, j, 0), answered(need));
                    check.due(call + ", 1)", x.two(100 * m1 + m2, j, 1),
                        need == NONE || need == 0 ? TwoJars.NOT : how[0] == 1 ? 0 : 1);
                }
            }
        }
    }

    // ---- wrong inputs

    private static void wrong(Check check) {
        TwoJars x = new TwoJars();
        int bad = TwoJars.BAD;
        int[] far = {Integer.MIN_VALUE, Integer.MAX_VALUE, -1, -10, -101};
        for (int v : far) {
            check.due("worst(" + v + ", 0)", x.worst(v, 0), bad);
            check.due("worst(212, " + v + ")", x.worst(212, v), bad);
            check.due("reach(" + v + ")", x.reach(v), bad);
            check.due("mean(" + v + ", 2, 0)", x.mean(v, 2, 0), bad);
            check.due("mean(20, " + v + ", 0)", x.mean(20, v, 0), bad);
            check.due("mean(20, 2, " + v + ")", x.mean(20, 2, v), bad);
            check.due("meanFirst(" + v + ", 2)", x.meanFirst(v, 2), bad);
            check.due("meanFirst(20, " + v + ")", x.meanFirst(20, v), bad);
            check.due("trodden(" + v + ", 2, 0)", x.trodden(v, 2, 0), bad);
            check.due("trodden(20, " + v + ", 0)", x.trodden(20, v, 0), bad);
            check.due("trodden(20, 2, " + v + ")", x.trodden(20, 2, v), bad);
            check.due("price(" + v + ", 0)", x.price(v, 0), bad);
            check.due("price(212, " + v + ")", x.price(212, v), bad);
            check.due("two(" + v + ", 2, 0)", x.two(v, 2, 0), bad);
            check.due("two(505, " + v + ", 0)", x.two(505, v, 0), bad);
            check.due("two(505, 2, " + v + ")", x.two(505, 2, v), bad);
        }
        check.due("worst(212, 2)", x.worst(212, 2), bad);
        check.due("mean(20, 2, 2)", x.mean(20, 2, 2), bad);
        check.due("trodden(20, 2, 2)", x.trodden(20, 2, 2), bad);
        check.due("price(212, 2)", x.price(212, 2), bad);
        check.due("two(505, 2, 2)", x.two(505, 2, 2), bad);
        int[] mjs = {0, 6, 7, 17, 617, 620};
        for (int mj : mjs) {
            check.due("worst(" + mj + ", 0)", x.worst(mj, 0), bad);
            check.due("price(" + mj + ", 0)", x.price(mj, 0), bad);
        }
        check.due("reach(210)", x.reach(210), bad);
        check.due("reach(207)", x.reach(207), bad);
        check.due("mean(2021, 2, 0)", x.mean(2021, 2, 0), bad);
        check.due("mean(605, 2, 0)", x.mean(605, 2, 0), bad);
        check.due("mean(20, 7, 0)", x.mean(20, 7, 0), bad);
        check.due("meanFirst(21, 2)", x.meanFirst(21, 2), bad);
        check.due("trodden(20, 212, 0)", x.trodden(20, 212, 0), bad);
        check.due("trodden(20, 207, 0)", x.trodden(20, 207, 0), bad);
        check.due("two(3201, 2, 0)", x.two(3201, 2, 0), bad);
        check.due("two(132, 2, 0)", x.two(132, 2, 0), bad);
        check.due("two(505, 7, 0)", x.two(505, 7, 0), bad);
        x.mend(0, 25);
        check.due("trodden, 25 steps", x.trodden(20, 2, 0), TwoJars.STATE);
        check.due("trodden, 25 steps and NOT", x.trodden(20, 0, 0), TwoJars.STATE);
        check.due("trodden, 25 steps and sure", x.trodden(505, 2, 1), TwoJars.STATE);
        check.due("trodden, 25 steps and bad", x.trodden(26, 2, 0), bad);
        x.mend(0, 24);
        check.due("trodden, 24 steps", x.trodden(24, 1, 0), 24);
    }

    public static void main(String[] args) {
        Check check = new Check("PlansTest");
        fewHeights(check);
        worstByReach(check);
        meansThatChange(check);
        meansAtFirst(check);
        manyTrodden(check);
        manyPrices(check);
        towers(check);
        wrong(check);
        check.end();
    }
}
