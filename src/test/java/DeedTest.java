import java.util.ArrayList;
import java.util.List;
import java.util.Random;

/** Promises 21 to 29: what is hidden, images and changes, against a model in plain Java; and the edges by hand. */
public final class DeedTest {
    /** What LED tells, and what is hidden. */
    private static final class Model {
        private boolean there;
        private int height;
        private int steps;
        private int jars;
        private int drops;
        private int broken;
        private int right;
        private int guesses;
        private boolean[] fits = new boolean[0];

        Model copy() {
            Model copy = new Model();
            copy.there = there;
            copy.height = height;
            copy.steps = steps;
            copy.jars = jars;
            copy.drops = drops;
            copy.broken = broken;
            copy.right = right;
            copy.guesses = guesses;
            copy.fits = fits.clone();
            return copy;
        }

        int least() {
            int h = 0;
            while (!fits[h]) {
                h++;
            }
            return h;
        }

        int most() {
            int h = steps;
            while (!fits[h]) {
                h--;
            }
            return h;
        }

        int drop(int step) {
            drops++;
            int outcome = height < step ? 1 : 0;
            broken += outcome;
            for (int h = 0; h <= steps; h++) {
                fits[h] &= (h < step) == (height < step);
            }
            return outcome;
        }

        int led(int what) {
            int[] all = there ? new int[] {drops, broken, least(), most(), right, guesses}
                : new int[] {-5, -5, -5, -5, right, guesses};
            return all[what];
        }
    }

    private static final class Run {
        private final Check check;
        private final Random random;
        private final TwoJars x = new TwoJars();
        private Model now = new Model();
        private Model kept;
        private final List<int[]> done = new ArrayList<>();
        private final List<int[]> undone = new ArrayList<>();

        Run(Check check, long seed) {
            this.check = check;
            this.random = new Random(seed);
        }

        private int limit() {
            return now.there ? now.steps : x.of(0);
        }

        private void hide() {
            int seed = random.nextInt();
            now.there = true;
            now.height = RulesTest.heightBy(x, seed * 1103515245 + 12345);
            now.steps = x.of(0);
            now.jars = x.of(1);
            now.drops = 0;
            now.broken = 0;
            now.fits = new boolean[now.steps + 1];
            java.util.Arrays.fill(now.fits, true);
            check.due("hide(" + seed + ")", x.hide(seed), now.steps);
        }

        private void drop() {
            int step = random.nextInt(limit() + 3) - 1;
            if (now.there && random.nextBoolean()) {
                step = now.least() + random.nextInt(now.most() - now.least() + 1);
            }
            int want = step < 1 || step > limit() ? TwoJars.BAD
                : !now.there || now.broken == now.jars ? TwoJars.STATE : now.drop(step);
            check.due("drop(" + step + ")", x.drop(step), want);
        }

        private void dropRow() {
            long[] row = new long[random.nextInt(12)];
            for (int i = 0; i < row.length; i++) {
                row[i] = random.nextInt(limit()) + (random.nextInt(8) == 0 ? 0 : 1);
            }
            Check.lay(x, 2, 0, row);
            int[] places = {0, 0, 1, row.length, row.length + 3, -1, Integer.MAX_VALUE, Integer.MIN_VALUE};
            int i = places[random.nextInt(places.length)];
            int n = random.nextInt(22);
            int want = n < 1 || n > 20 ? TwoJars.BAD : !now.there ? TwoJars.STATE : 0;
            if (want == 0) {
                for (long k = i; want < n && k >= 0 && k < row.length && row[(int) k] >= 1 && row[(int) k] <= now.steps
                        && now.broken < now.jars && now.least() < now.most(); k++) {
                    now.drop((int) row[(int) k]);
                    want++;
                }
            }
            check.due("drops(2, " + i + ", " + n + ")", x.drops(2, i, n), want);
        }

        private void guess() {
            int height = random.nextBoolean() && now.there ? now.height : random.nextInt(limit() + 3) - 1;
            int want = height < 0 || height > limit() ? TwoJars.BAD : !now.there ? TwoJars.STATE
                : height == now.height ? 1 : 0;
            if (want >= 0) {
                now.there = false;
                now.guesses++;
                now.right += want;
            }
            check.due("guess(" + height + ")", x.guess(height), want);
        }

        private void imageOrBack() {
            if (random.nextBoolean()) {
                kept = now.copy();
                check.due("image()", x.image(), now.there ? now.drops : 0);
            } else {
                now = kept == null ? now : kept.copy();
                check.due("back()", x.back(), kept == null ? TwoJars.STATE : now.there ? now.drops : 0);
            }
        }

        private void change() {
            int way = random.nextInt(5);
            if (way < 2) {
                int what = random.nextInt(4);
                int was = x.of(what);
                int v = random.nextInt(4) == 0 ? was : 1 + random.nextInt(what == 0 ? 60 : 6);
                if (v != was) {
                    undone.clear();
                    done.add(new int[] {what, was, v});
                }
                if (done.size() > 40) {
                    done.remove(0);
                }
                check.due("mend(" + what + ", " + v + ")", x.mend(what, v), was);
                check.due("of(" + what + ")", x.of(what), v);
            } else if (way < 4) {
                turn(done, undone, 1, "undo", random.nextInt(3));
            } else {
                turn(undone, done, 2, "redo", random.nextInt(3));
            }
        }

        private void turn(List<int[]> from, List<int[]> to, int which, String call, int times) {
            for (int i = 0; i <= times; i++) {
                int got = call.equals("undo") ? x.undo() : x.redo();
                if (from.isEmpty()) {
                    check.due(call, got, TwoJars.STATE);
                    return;
                }
                int[] change = from.remove(from.size() - 1);
                to.add(change);
                check.due(call, got, from.size());
                check.due(call + " of(" + change[0] + ")", x.of(change[0]), change[which]);
            }
        }

        void go(int turns) {
            for (int i = 0; i < turns; i++) {
                switch (random.nextInt(8)) {
                    case 0:
                        hide();
                        break;
                    case 1:
                    case 2:
                    case 3:
                        drop();
                        break;
                    case 4:
                        dropRow();
                        break;
                    case 5:
                        guess();
                        break;
                    case 6:
                        imageOrBack();
                        break;
                    default:
                        change();
                }
                for (int what = 0; what < 6; what++) {
                    check.due("led(" + what + ")", x.led(what), now.led(what));
                }
                check.due("count(1)", x.count(1), done.size());
            }
        }
    }

    private static void byChance(Check check) {
        String[] laws = {"1", "h", "0", "h%3", "h=5?9"};
        for (int i = 0; i < 600; i++) {
            Run run = new Run(check, i);
            Check.law(run.x, laws[i % laws.length]);
            run.go(40);
        }
    }

    private static void manyChanges(Check check) {
        TwoJars x = new TwoJars();
        for (int i = 1; i <= 45; i++) {
            // The price of a drop is 1 at first: each mend is to another one.
            x.mend(2, i + 1);
            check.due("count(1) behind " + i, x.count(1), Math.min(40, i));
        }
        for (int i = 39; i >= 0; i--) {
            check.due("undo", x.undo(), i);
            check.due("of(2)", x.of(2), 6 + i);
        }
        check.due("undo of none", x.undo(), TwoJars.STATE);
        check.due("of(2)", x.of(2), 6);
        for (int i = 39; i >= 0; i--) {
            check.due("redo", x.redo(), i);
        }
        check.due("redo of none", x.redo(), TwoJars.STATE);
        check.due("of(2)", x.of(2), 46);
        x.undo();
        x.undo();
        check.due("a wrong mend", x.mend(2, 100), TwoJars.BAD);
        check.due("redo behind a wrong mend", x.redo(), 1);
        check.due("a mend to another", x.mend(2, 44), 45);
        check.due("redo behind another change", x.redo(), TwoJars.STATE);
        check.due("count(1)", x.count(1), 40);
    }

    /** A mend to what is there already is no change: what can be undone and done again stays as it was. */
    private static void mendsToTheSame(Check check) {
        int[] first = {20, 2, 1, 10};
        for (int what = 0; what < 4; what++) {
            TwoJars x = new TwoJars();
            check.due("a first mend to the same", x.mend(what, first[what]), first[what]);
            check.due("count(1) behind it", x.count(1), 0);
            check.due("undo behind it", x.undo(), TwoJars.STATE);
            check.due("redo behind it", x.redo(), TwoJars.STATE);
            x.mend(what, 5);
            x.mend(what, 6);
            check.due("a mend to the same", x.mend(what, 6), 6);
            check.due("count(1)", x.count(1), 2);
            check.due("undo", x.undo(), 1);
            check.due("of", x.of(what), 5);
            check.due("a mend to the same behind undo", x.mend(what, 5), 5);
            check.due("a mend of another to the same", x.mend((what + 1) % 4, first[(what + 1) % 4]),
                first[(what + 1) % 4]);
            check.due("count(1) behind both", x.count(1), 1);
            check.due("redo behind both", x.redo(), 0);
            check.due("of behind redo", x.of(what), 6);
            x.undo();
            check.due("a mend to what was undone", x.mend(what, 6), 5);
            check.due("redo behind a change", x.redo(), TwoJars.STATE);
            check.due("count(1) behind a change", x.count(1), 2);
        }
        mendToTheSameWhenFull(check);
    }

    /** With 40 changes kept a mend to the same drives none of them out. */
    private static void mendToTheSameWhenFull(Check check) {
        TwoJars x = new TwoJars();
        for (int i = 2; i <= 41; i++) {
            x.mend(2, i);
        }
        check.due("a mend to the same behind 40", x.mend(2, 41), 41);
        check.due("count(1) behind 40", x.count(1), 40);
        for (int i = 39; i >= 0; i--) {
            check.due("undo of 40", x.undo(), i);
        }
        check.due("of(2) behind all", x.of(2), 1);
        check.due("a mend to the same with 40 undone", x.mend(2, 1), 1);
        for (int i = 39; i >= 0; i--) {
            check.due("redo of 40", x.redo(), i);
        }
        check.due("of(2) done again", x.of(2), 41);
    }

    private static void wrong(Check check) {
        TwoJars x = new TwoJars();
        int[] far = {-1, 6, Integer.MIN_VALUE, Integer.MAX_VALUE};
        for (int v : far) {
            check.due("led(" + v + ")", x.led(v), TwoJars.BAD);
            check.due("drops(" + v + ", 0, 1)", x.drops(v, 0, 1), TwoJars.BAD);
        }
        check.due("drops of nothing, nothing hidden", x.drops(0, 0, 1), TwoJars.STATE);
        check.due("drops, n 0", x.drops(0, 0, 0), TwoJars.BAD);
        check.due("drops, n 21", x.drops(0, 0, 21), TwoJars.BAD);
        x.body(3);
        x.keep(1, 0);
        for (int sort = 1; sort < 5; sort++) {
            x.row(2, sort, 3);
            check.due("drops of sort " + sort, x.drops(2, 0, 1), -12);
        }
        check.due("drops of a body", x.drops(1, 0, 1), -12);
        x.hide(0);
        check.due("drops of a body, hidden", x.drops(1, 0, 1), -12);
        check.due("drops of nothing, hidden", x.drops(0, 0, 20), 0);
        check.due("led(0)", x.led(0), 0);
        check.due("drop(0)", x.drop(0), TwoJars.BAD);
        check.due("drop(21)", x.drop(21), TwoJars.BAD);
        x.mend(0, 60);
        check.due("drop(21) of 20 steps", x.drop(21), TwoJars.BAD);
        check.due("guess(21) of 20 steps", x.guess(21), TwoJars.BAD);
        check.due("guess(-1)", x.guess(-1), TwoJars.BAD);
        check.due("led(3)", x.led(3), 20);
        x.mend(1, 0);
        check.due("a jar of its own", x.drop(20), RulesTest.heightBy(new TwoJars(), 12345) < 20 ? 1 : 0);
        x.hide(4);
        check.due("no jar", x.drop(60), TwoJars.STATE);
        check.due("no jar, from a row", x.drops(0, 0, 1), 0);
        check.due("led(0)", x.led(0), 0);
    }

    /** An image of nothing hidden lays nothing hidden back, and the guesses as they were. */
    private static void imageOfNothing(Check check) {
        TwoJars x = new TwoJars();
        check.due("image()", x.image(), 0);
        x.hide(1);
        x.drop(20);
        x.guess(0);
        check.due("led(5)", x.led(5), 1);
        x.hide(1);
        check.due("back()", x.back(), 0);
        check.due("led(0)", x.led(0), TwoJars.STATE);
        check.due("led(5)", x.led(5), 0);
        check.due("drop(1)", x.drop(1), TwoJars.STATE);
        check.due("back() once more", x.back(), 0);
    }

    public static void main(String[] args) {
        Check check = new Check("DeedTest");
        byChance(check);
        manyChanges(check);
        mendsToTheSame(check);
        wrong(check);
        imageOfNothing(check);
        check.end();
    }
}
