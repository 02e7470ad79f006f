import java.util.Random;

/** Promises 33 to 39: shelves against rows of Java, whose own exceptions tell the refusals. */
public final class ShelvesTest {
    private static Object made(int sort, int n) {
        switch (sort) {
            case 0:
                return new byte[n];
            case 1:
                return new short[n];
            case 2:
                return new int[n];
            case 3:
                return new long[n];
            default:
                return new boolean[n];
        }
    }

    private static int put(Object held, int i, long v) {
        try {
            if (held == null) {
                return -11;
            }
            if (held instanceof byte[]) {
                ((byte[]) held)[i] = (byte) v;
            } else if (held instanceof short[]) {
                ((short[]) held)[i] = (short) v;
            } else if (held instanceof int[]) {
                ((int[]) held)[i] = (int) v;
            } else if (held instanceof long[]) {
                ((long[]) held)[i] = v;
            } else if (held instanceof boolean[]) {
                ((boolean[]) held)[i] = v != 0;
            } else {
                return -12;
            }
            return 1;
        } catch (ArrayIndexOutOfBoundsException e) {
            return -13;
        }
    }

    private static long element(Object held, int i) {
        try {
            if (held instanceof byte[]) {
                return ((byte[]) held)[i];
            }
            if (held instanceof short[]) {
                return ((short[]) held)[i];
            }
            if (held instanceof int[]) {
                return ((int[]) held)[i];
            }
            if (held instanceof long[]) {
                return ((long[]) held)[i];
            }
            return held instanceof boolean[] ? ((boolean[]) held)[i] ? 1 : 0 : Long.MIN_VALUE;
        } catch (ArrayIndexOutOfBoundsException e) {
            return Long.MIN_VALUE;
        }
    }

    private static int shift(Object from, int i, Object to, int j, int n) {
        try {
            System.arraycopy(from, i, to, j, n);
            return n;
        } catch (NullPointerException e) {
            return -11;
        } catch (ArrayStoreException e) {
            return -12;
        } catch (IndexOutOfBoundsException e) {
            return -13;
        }
    }

    private static final class Run {
        private final Check check;
        private final Random random;
        private final TwoJars x = new TwoJars();
        private final Object[] held = new Object[6];

        Run(Check check, long seed) {
            this.check = check;
            this.random = new Random(seed);
            for (int kind = 0; kind < 8; kind++) {
                x.body(kind);
            }
        }

        private int shelf() {
            return random.nextInt(20) == 0 ? (random.nextBoolean() ? -1 : 6) : random.nextInt(6);
        }

        private int place() {
            int[] places = {-1, 0, 0, 1, 2, 3, 5, 8, 60, Integer.MAX_VALUE, Integer.MIN_VALUE};
            return places[random.nextInt(places.length)];
        }

        private void lay() {
            int shelf = shelf();
            int sort = random.nextInt(6) - (random.nextInt(8) == 0 ? 1 : 0);
            int[] sizes = {0, 1, 4, 8, 60, 61, -1, Integer.MIN_VALUE};
            int n = sizes[random.nextInt(sizes.length)];
            int want = shelf < 0 || shelf > 5 || sort < 0 || sort > 4 || n > 60 ? TwoJars.BAD : n < 0 ? -14 : 1;
            check.due("row(" + shelf + ", " + sort + ", " + n + ")", x.row(shelf, sort, n), want);
            if (want == 1) {
                held[shelf] = made(sort, n);
            }
        }

        private void keep() {
            int shelf = shelf();
            int body = random.nextInt(11) - 2;
            boolean bad = shelf < 0 || shelf > 5 || body < -1 || body > 7;
            check.due("keep(" + shelf + ", " + body + ")", x.keep(shelf, body), bad ? TwoJars.BAD : 1);
            if (!bad) {
                held[shelf] = body < 0 ? null : "body";
            }
        }

        private void set() {
            int shelf = shelf();
            int i = place();
            long v = random.nextInt(5) == 0 ? 0 : random.nextLong() >> random.nextInt(64);
            int want = shelf < 0 || shelf > 5 ? TwoJars.BAD : put(held[shelf], i, v);
            check.due("put(" + shelf + ", " + i + ", " + v + ")", x.put(shelf, i, v), want);
        }

        private void move() {
            int shelf = shelf();
            int other = random.nextInt(3) == 0 ? shelf : shelf();
            int i = place();
            int j = place();
            int n = place();
            boolean bad = shelf < 0 || shelf > 5 || other < 0 || other > 5;
            int want = bad ? TwoJars.BAD : shift(held[shelf], i, held[other], j, n);
            check.due("shift(" + shelf + ", " + i + ", " + other + ", " + j + ", " + n + ")",
                x.shift(shelf, i, other, j, n), want);
        }

        void go(int turns) {
            for (int turn = 0; turn < turns; turn++) {
                switch (random.nextInt(6)) {
                    case 0:
                        lay();
                        break;
                    case 1:
                        keep();
                        break;
                    case 2:
                    case 3:
                        set();
                        break;
                    default:
                        move();
                }
                for (int shelf = -1; shelf <= 6; shelf++) {
                    int i = random.nextInt(12) - 1;
                    long want = shelf < 0 || shelf > 5 ? Long.MIN_VALUE : element(held[shelf], i);
                    check.due("element(" + shelf + ", " + i + ")", x.element(shelf, i), want);
                }
            }
        }
    }

    private static void lowestBits(Check check) {
        TwoJars x = new TwoJars();
        long[] given = {300, -1, 200, 40000, 3000000000L, Long.MIN_VALUE, Long.MAX_VALUE, 0, 256, 1L << 32};
        for (int sort = 0; sort < 5; sort++) {
            x.row(sort, sort, 10);
            for (int i = 0; i < given.length; i++) {
                check.due("put", x.put(sort, i, given[i]), 1);
                long v = given[i];
                long[] want = {(byte) v, (short) v, (int) v, v, v == 0 ? 0 : 1};
                check.due("element of sort " + sort + " for " + v, x.element(sort, i), want[sort]);
            }
        }
        check.due("row anew", x.row(0, 0, 10), 1);
        check.due("element of a row anew", x.element(0, 0), 0);
    }

    private static void overlapping(Check check) {
        for (int way = 0; way < 2; way++) {
            TwoJars x = new TwoJars();
            Check.lay(x, 0, 2, 1, 2, 3, 4, 5);
            check.due("shift", x.shift(0, way, 0, 1 - way, 4), 4);
            long[] want = way == 0 ? new long[] {1, 1, 2, 3, 4} : new long[] {2, 3, 4, 5, 5};
            for (int i = 0; i < 5; i++) {
                check.due("element " + i, x.element(0, i), want[i]);
            }
            check.due("shift of none at the end", x.shift(0, 5, 0, 5, 0), 0);
            check.due("shift of none behind the end", x.shift(0, 6, 0, 0, 0), -13);
            check.due("shift to behind the end", x.shift(0, 0, 0, 6, 0), -13);
            check.due("shift, n below 0", x.shift(0, 0, 0, 0, -1), -13);
            check.due("shift to nothing", x.shift(0, 0, 1, 0, 1), -11);
            check.due("shift from nothing", x.shift(1, 0, 0, 0, 1), -11);
            x.body(0);
            x.keep(2, 0);
            check.due("shift from a body to nothing", x.shift(2, 0, 1, 0, 1), -11);
            check.due("shift from a body", x.shift(2, 0, 0, 0, 1), -12);
            check.due("shift to a body, n below 0", x.shift(0, 0, 2, 0, -1), -12);
        }
    }

    private static void counted(Check check) {
        TwoJars x = new TwoJars();
        int[] far = {-1, 4, Integer.MIN_VALUE, Integer.MAX_VALUE};
        for (int what : far) {
            check.due("count(" + what + ")", x.count(what), TwoJars.BAD);
        }
        x.feed('1');
        x.feed('+');
        x.mend(1, 3);
        x.mend(1, 4);
        x.mend(1, 5);
        for (int i = 0; i < 4; i++) {
            x.body(7);
        }
        x.act(0, 3, 1);
        check.due("count(0)", x.count(0), 2);
        check.due("count(1)", x.count(1), 3);
        check.due("count(2)", x.count(2), 4);
        check.due("count(3)", x.count(3), 8);
        check.due("law", x.law(), -102);
        check.due("undo", x.undo(), 2);
        check.due("count(0)", x.count(0), 0);
        check.due("count(1)", x.count(1), 2);
    }

    public static void main(String[] args) {
        Check check = new Check("ShelvesTest");
        for (int i = 0; i < 800; i++) {
            new Run(check, i).go(40);
        }
        lowestBits(check);
        overlapping(check);
        counted(check);
        check.end();
    }
}
