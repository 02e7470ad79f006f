import java.util.Random;

/** Any calls with any arguments: none throws, the same calls give the same answers, refused ones change nothing. */
public final class AnyCallsTest {
    private static final int[] EDGES = {0, 1, 2, 3, 5, 6, 7, 9, 10, 20, 21, 24, 25, 31, 40, 50, 60, 61, 99, 100, 120, 212,
        505, 612, 1010, 2020, 3131, 6060, -1, -2, -5, -10, -100, 65535, 1 << 20, Integer.MAX_VALUE, Integer.MIN_VALUE,
        Integer.MIN_VALUE + 1, Integer.MAX_VALUE - 1};
    private static final String LETTERS = "0123456789hnj!-()+*/%|&<=>?;hnj01";

    private static int any(Random random) {
        int way = random.nextInt(10);
        if (way < 4) {
            return random.nextInt(7);
        }
        if (way < 6) {
            return random.nextInt(70) - 2;
        }
        if (way < 8) {
            return random.nextInt(6400);
        }
        return way == 8 ? EDGES[random.nextInt(EDGES.length)] : random.nextInt();
    }

    private static int letter(Random random) {
        return random.nextInt(4) == 0 ? any(random) : LETTERS.charAt(random.nextInt(LETTERS.length()));
    }

    /** Five ints and a long for one call, whichever it is. */
    private static long[] drawn(int which, Random random) {
        int first = which == 2 ? letter(random) : any(random);
        return new long[] {first, any(random), any(random), any(random), any(random),
            random.nextBoolean() ? any(random) : random.nextLong()};
    }

    private static long call(TwoJars x, int which, long[] drawn) {
        int a = (int) drawn[0];
        int b = (int) drawn[1];
        int c = (int) drawn[2];
        int d = (int) drawn[3];
        int e = (int) drawn[4];
        switch (which) {
            case 0: return x.mend(a, b);
            case 1: return x.of(a);
            case 2: return x.feed(a);
            case 3: return x.law();
            case 4: return x.weight(a);
            case 5: return x.worst(a, b);
            case 6: return x.reach(a);
            case 7: return x.mean(a, b, c);
            case 8: return x.meanFirst(a, b);
            case 9: return x.trodden(a, b, c);
            case 10: return x.price(a, b);
            case 11: return x.two(a, b, c);
            case 12: return x.ruled(a, b, c);
            case 13: return x.step(a, b, c);
            case 14: return x.shards(a, b);
            case 15: return x.judge(a);
            case 16: return x.left(a, b);
            case 17: return x.wise(a);
            case 18: return x.drawn(a, b, c);
            case 19: return x.hide(a);
            case 20: return x.drop(a);
            case 21: return x.drops(a, b, c);
            case 22: return x.guess(a);
            case 23: return x.led(a);
            case 24: return x.image();
            case 25: return x.back();
            case 26: return x.undo();
            case 27: return x.redo();
            case 28: return x.body(a);
            case 29: return x.act(a, b, c);
            case 30: return x.trace(a);
            case 31: return x.keep(a, b);
            case 32: return x.row(a, b, c);
            case 33: return x.put(a, b, drawn[5]);
            case 34: return x.element(a, b);
            case 35: return x.shift(a, b, c, d, e);
            case 36: return x.taken(a, b);
            default: return x.count(a);
        }
    }

    /** All that can be asked without changing anything. */
    private static long seen(TwoJars x) {
        long sum = 0;
        for (int i = 0; i < 6; i++) {
            sum = sum * 31 + x.of(i);
            sum = sum * 31 + x.led(i);
            sum = sum * 31 + x.count(i);
            sum = sum * 31 + x.taken(i, 0);
            sum = sum * 31 + x.judge(i);
            sum = sum * 31 + x.weight(i * 4);
            for (int place = 0; place < 60; place += 7) {
                sum = sum * 31 + x.element(i, place);
            }
            sum = sum * 31 + x.trace(i);
        }
        return sum;
    }

    private static boolean isRefused(int which, long answer) {
        // Acts answer any int, and tell no refusal by it; a law with a fault empties the tape.
        return which != 29 && which != 3 && (answer == -1 || answer == -2 || answer == -3 || answer == -5
            || answer <= -11 && answer >= -14 || answer == Long.MIN_VALUE);
    }

    /** Two objects get the same calls; a third one gets only those that are not refused, and answers alike. */
    private static void run(Check check, int run) {
        TwoJars x = new TwoJars();
        TwoJars y = new TwoJars();
        TwoJars spared = new TwoJars();
        Random random = new Random(run);
        for (int i = 0; i < 512; i++) {
            int which = random.nextInt(38);
            long[] drawn = drawn(which, random);
            String told = "call " + which + java.util.Arrays.toString(drawn) + " of run " + run;
            long before = seen(x);
            long answer = call(x, which, drawn);
            check.due(told + " once more", call(y, which, drawn), answer);
            if (isRefused(which, answer)) {
                check.due("what is seen behind refused " + told, seen(x), before);
            } else {
                check.due(told + " without those refused ahead", call(spared, which, drawn), answer);
            }
        }
    }

    public static void main(String[] args) {
        Check check = new Check("AnyCallsTest");
        for (int run = 0; run < 400; run++) {
            run(check, run);
        }
        check.end();
    }
}
