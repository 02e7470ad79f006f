import java.util.ArrayList;
import java.util.List;
import java.util.Random;

/** Promises 14 to 20: rules walked by the plans' first steps, told drops by the set of heights that fit them. */
public final class RulesTest {
    private static final String[] LAWS = {"1", "h", "0", "9-h/4", "h%2", "h>30", "h=7?9;h=40?5", "h*h%7", "n-h", "h<3",
        "h<20?3;h%5"};

    /** The drops of a rule for a height, or null; breaks come behind them as the last number. */
    private static List<Integer> walked(TwoJars x, int rule, int height) {
        List<Integer> drops = new ArrayList<>();
        int lo = 0;
        int hi = x.of(0);
        int jars = x.of(1);
        int breaks = 0;
        while (lo < hi) {
            if (jars == 0) {
                return null;
            }
            int step = rule == 0 ? lo + x.worst(10 * (hi - lo + 1) + jars, 1) : x.meanFirst(100 * lo + hi, jars);
            drops.add(step);
            if (height < step) {
                hi = step - 1;
                jars--;
                breaks++;
            } else {
                lo = step;
            }
        }
        drops.add(breaks);
        return drops;
    }

    private static void oneTower(Check check, TwoJars x, Random random) {
        int steps = x.of(0);
        for (int rule = 0; rule < 2; rule++) {
            long[] shards = new long[700];
            for (int h = 0; h <= steps; h++) {
                List<Integer> drops = walked(x, rule, h);
                String call = "(" + rule + ", " + h;
                if (drops == null) {
                    check.due("ruled" + call + ", 0)", x.ruled(rule, h, 0), TwoJars.NOT);
                    check.due("ruled" + call + ", 1)", x.ruled(rule, h, 1), TwoJars.NOT);
                    check.due("step" + call + ", 0)", x.step(rule, h, 0), TwoJars.NOT);
                    check.due("shards(" + rule, x.shards(rule, random.nextInt(100)), TwoJars.NOT);
                    check.due("drawn", x.drawn(h, 100 * rule + 1, h % 2), TwoJars.NOT);
                    continue;
                }
                int count = drops.size() - 1;
                check.due("ruled" + call + ", 0)", x.ruled(rule, h, 0), count);
                check.due("ruled" + call + ", 1)", x.ruled(rule, h, 1), drops.get(count));
                for (int k = 0; k < count; k++) {
                    check.due("step" + call + ", " + k + ")", x.step(rule, h, k), drops.get(k));
                }
                check.due("step" + call + ", " + count + ")", x.step(rule, h, count), TwoJars.NOT);
                check.due("step" + call + ", far)", x.step(rule, h, Integer.MAX_VALUE), TwoJars.NOT);
                shards[10 * count + drops.get(count)] |= 1L << h;
            }
            if (x.of(1) > 0) {
                for (int i = 0; i < 12; i++) {
                    int db = random.nextInt(random.nextBoolean() ? 120 : 650);
                    check.due("shards(" + rule + ", " + db + ")", x.shards(rule, db), shards[db]);
                }
                drawn(check, x, rule, random);
            }
        }
    }

    static int heightBy(TwoJars x, int z) {
        int all = 0;
        for (int h = 0; h <= x.of(0); h++) {
            all += x.weight(h);
        }
        int rest = (z >>> 8) % (all == 0 ? x.of(0) + 1 : all);
        int height = 0;
        while (rest >= (all == 0 ? 1 : x.weight(height))) {
            rest -= all == 0 ? 1 : x.weight(height);
            height++;
        }
        return height;
    }

    private static void drawn(Check check, TwoJars x, int rule, Random random) {
        for (int i = 0; i < 4; i++) {
            int seed = random.nextInt();
            int n = 1 + random.nextInt(60);
            int drops = 0;
            int breaks = 0;
            int z = seed;
            for (int k = 0; k < n; k++) {
                z = z * 1103515245 + 12345;
                int height = heightBy(x, z);
                drops += x.ruled(rule, height, 0);
                breaks += x.ruled(rule, height, 1);
            }
            String call = "drawn(" + seed + ", " + (100 * rule + n);
            check.due(call + ", 0)", x.drawn(seed, 100 * rule + n, 0), drops);
            check.due(call + ", 1)", x.drawn(seed, 100 * rule + n, 1), breaks);
        }
    }

    private static void towers(Check check) {
        Random random = new Random(31);
        for (int i = 0; i < 40; i++) {
            TwoJars x = new TwoJars();
            x.mend(0, i == 0 ? 60 : 1 + random.nextInt(random.nextBoolean() ? 60 : 12));
            x.mend(1, i == 0 ? 1 : random.nextInt(7));
            Check.law(x, LAWS[random.nextInt(LAWS.length)]);
            oneTower(check, x, random);
        }
        TwoJars y = new TwoJars();
        y.mend(0, 60);
        y.mend(1, 1);
        check.due("60 drops", y.ruled(0, 60, 0), 60);
        check.due("the last of them", y.step(0, 60, 59), 60);
        check.due("shards(0, 600)", y.shards(0, 600), 1L << 60);
        check.due("shards(0, 601)", y.shards(0, 601), 1L << 59);
        check.due("shards(0, 609)", y.shards(0, 609), 0);
        check.due("shards, far", y.shards(0, Integer.MAX_VALUE), 0);
    }

    /** Each call as the first one that looks at the weights. */
    private static void atFirst(Check check) {
        TwoJars[] all = new TwoJars[8];
        for (int i = 0; i < all.length; i++) {
            all[i] = new TwoJars();
            Check.law(all[i], "h>18");
        }
        check.due("meanFirst", all[0].meanFirst(20, 2), 19);
        check.due("ruled", all[1].ruled(1, 20, 0), 2);
        check.due("step", all[2].step(1, 20, 0), 19);
        check.due("shards", all[3].shards(1, 20), 1L << 20);
        check.due("drawn by worst", all[4].drawn(5, 60, 0), all[7].ruled(0, 19, 0) * zeros(5) + all[7].ruled(0, 20, 0) * (60 - zeros(5)));
        check.due("drawn by mean", all[5].drawn(5, 160, 0), 120);
        check.due("hide", all[6].hide(5), 20);
        check.due("a drop from 18", all[6].drop(18), 0);
    }

    /** How many of 60 drawn bits are 0. */
    private static int zeros(int seed) {
        int z = seed;
        int count = 0;
        for (int i = 0; i < 60; i++) {
            z = z * 1103515245 + 12345;
            count += (z >>> 8) % 2 == 0 ? 1 : 0;
        }
        return count;
    }

    // ---- told drops

    private static long[] chanceRow(Random random, int steps) {
        long[] row = new long[random.nextInt(15)];
        int height = random.nextInt(steps + 1);
        for (int i = 0; i < row.length; i += 2) {
            row[i] = 1 + random.nextInt(steps);
            if (i + 1 == row.length) {
                break;
            }
            row[i + 1] = height < row[i] ? 1 : 0;
            if (random.nextInt(12) == 0) {
                row[i + 1] = random.nextInt(4) - 1;
            }
            if (random.nextInt(20) == 0) {
                row[i] = random.nextInt(256) - 128;
            }
        }
        return row;
    }

    /** Good drops of a plan, so that wise ones are met often. */
    private static long[] plannedRow(TwoJars x, Random random) {
        int height = random.nextInt(x.of(0) + 1);
        List<Integer> drops = walked(x, 0, height);
        if (drops == null) {
            return new long[0];
        }
        long[] row = new long[Math.min(60, 2 * (drops.size() - 1))];
        for (int i = 0; i + 1 < row.length; i += 2) {
            row[i] = drops.get(i / 2) + (random.nextInt(4) == 0 ? random.nextInt(3) - 1 : 0);
            row[i + 1] = height < row[i] ? 1 : 0;
        }
        return row;
    }

    private static void listened(Check check, TwoJars x, long[] row) {
        boolean[] fits = new boolean[x.of(0) + 1];
        java.util.Arrays.fill(fits, true);
        int jars = x.of(1);
        int wise = 0;
        int judged = TwoJars.NOT;
        for (int i = 0; i < row.length && judged == TwoJars.NOT; i += 2) {
            if (i + 1 == row.length || row[i] < 1 || row[i] > x.of(0) || row[i + 1] < 0 || row[i + 1] > 1 || jars == 0) {
                judged = i / 2;
                break;
            }
            int lo = least(fits);
            int hi = most(fits);
            int now = hi > lo ? x.worst(10 * (hi - lo + 1) + jars, 0) : 0;
            for (int h = 0; h < fits.length; h++) {
                fits[h] &= (h < row[i]) == (row[i + 1] == 1);
            }
            if (least(fits) < 0) {
                judged = i / 2;
                break;
            }
            if (row[i] > lo && row[i] <= hi) {
                int broken = x.worst((int) (10 * (row[i] - lo) + jars - 1), 0);
                int whole = x.worst((int) (10 * (hi + 1 - row[i]) + jars), 0);
                wise += broken >= 0 && whole >= 0 && 1 + Math.max(broken, whole) == now ? 1 : 0;
            }
            jars -= row[i + 1];
        }
        boolean can = judged == TwoJars.NOT;
        String call = java.util.Arrays.toString(row) + " of " + x.of(0) + ", " + x.of(1);
        check.due("judge " + call, x.judge(3), judged);
        check.due("left 0 " + call, x.left(3, 0), can ? least(fits) : TwoJars.STATE);
        check.due("left 1 " + call, x.left(3, 1), can ? most(fits) : TwoJars.STATE);
        check.due("left 2 " + call, x.left(3, 2), can ? jars : TwoJars.STATE);
        check.due("wise " + call, x.wise(3), can ? wise : TwoJars.STATE);
    }

    private static int least(boolean[] fits) {
        for (int h = 0; h < fits.length; h++) {
            if (fits[h]) {
                return h;
            }
        }
        return -1;
    }

    private static int most(boolean[] fits) {
        int most = -1;
        for (int h = 0; h < fits.length; h++) {
            most = fits[h] ? h : most;
        }
        return most;
    }

    private static void toldDrops(Check check) {
        Random random = new Random(17);
        for (int i = 0; i < 4000; i++) {
            TwoJars x = new TwoJars();
            x.mend(0, 1 + random.nextInt(random.nextBoolean() ? 60 : 8));
            x.mend(1, random.nextInt(7));
            long[] row = random.nextBoolean() ? chanceRow(random, x.of(0)) : plannedRow(x, random);
            Check.lay(x, 3, 0, row);
            listened(check, x, row);
        }
    }

    private static void wrongShelves(Check check) {
        TwoJars x = new TwoJars();
        x.body(0);
        x.keep(1, 0);
        for (int sort = 1; sort < 5; sort++) {
            x.row(1 + sort, sort, 2);
        }
        int[] shelves = {-1, 6, Integer.MIN_VALUE, Integer.MAX_VALUE, 0, 1, 2, 3, 4, 5};
        for (int shelf : shelves) {
            int want = shelf < 0 || shelf > 5 ? TwoJars.BAD : shelf == 0 ? -11 : -12;
            check.due("judge(" + shelf + ")", x.judge(shelf), want);
            check.due("left(" + shelf + ", 0)", x.left(shelf, 0), want);
            check.due("left(" + shelf + ", 3)", x.left(shelf, 3), TwoJars.BAD);
            check.due("left(" + shelf + ", -1)", x.left(shelf, -1), TwoJars.BAD);
            check.due("wise(" + shelf + ")", x.wise(shelf), want);
        }
    }

    private static void wrong(Check check) {
        TwoJars x = new TwoJars();
        int[] far = {-1, 2, Integer.MIN_VALUE, Integer.MAX_VALUE};
        for (int v : far) {
            check.due("ruled(" + v + ", 0, 0)", x.ruled(v, 0, 0), TwoJars.BAD);
            check.due("ruled(0, 0, " + v + ")", x.ruled(0, 0, v), TwoJars.BAD);
            check.due("step(" + v + ", 0, 0)", x.step(v, 0, 0), TwoJars.BAD);
            check.due("shards(" + v + ", 0)", x.shards(v, 0), Long.MIN_VALUE);
            check.due("drawn(0, 1, " + v + ")", x.drawn(0, 1, v), TwoJars.BAD);
        }
        int[] heights = {-1, 21, Integer.MIN_VALUE, Integer.MAX_VALUE};
        for (int v : heights) {
            check.due("ruled(0, " + v + ", 0)", x.ruled(0, v, 0), TwoJars.BAD);
            check.due("step(0, " + v + ", 0)", x.step(0, v, 0), TwoJars.BAD);
        }
        check.due("step(0, 0, -1)", x.step(0, 0, -1), TwoJars.BAD);
        check.due("shards(0, -1)", x.shards(0, -1), Long.MIN_VALUE);
        check.due("shards(0, MIN)", x.shards(0, Integer.MIN_VALUE), Long.MIN_VALUE);
        int[] rns = {0, 61, 100, 161, 200, 201, -1, -99, Integer.MIN_VALUE, Integer.MAX_VALUE};
        for (int rn : rns) {
            check.due("drawn(0, " + rn + ", 0)", x.drawn(0, rn, 0), TwoJars.BAD);
        }
        x.mend(1, 0);
        check.due("shards without jars, bad", x.shards(0, -1), Long.MIN_VALUE);
        check.due("drawn without jars, bad", x.drawn(0, 0, 0), TwoJars.BAD);
        check.due("drawn without jars", x.drawn(0, 1, 0), TwoJars.NOT);
        check.due("count(1): nothing but the mend", x.count(1), 1);
        check.due("led(0): nothing is hidden by drawn", x.led(0), TwoJars.STATE);
    }

    public static void main(String[] args) {
        Check check = new Check("RulesTest");
        towers(check);
        atFirst(check);
        toldDrops(check);
        wrongShelves(check);
        wrong(check);
        check.end();
    }
}
