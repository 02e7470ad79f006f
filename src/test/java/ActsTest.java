import java.util.ArrayList;
import java.util.List;

/** Promises 30 to 32, and 38, against classes of Java that call one another as the document says. */
public final class ActsTest {
    private static final List<Integer> RAN = new ArrayList<>();

    private static void ran(int body) {
        RAN.add(body);
    }

    private interface Drops {
        int number();

        default int drops(int x) {
            ran(1);
            return x + number();
        }
    }

    private static class Plan implements Drops {
        int number;

        public int number() {
            return number;
        }

        int breaks(int x) {
            ran(10);
            return drops(x) * 2;
        }

        int climbs(int x) {
            ran(11);
            return x ^ number;
        }

        int tells(int x) {
            ran(2);
            return breaks(x) - climbs(1);
        }
    }

    private static class Worst extends Plan {
        public int drops(int x) {
            ran(20);
            return super.drops(x) + 3;
        }
    }

    private static class Mean extends Plan {
        int breaks(int x) {
            ran(30);
            return -super.breaks(x);
        }
    }

    private static class Climb extends Mean {
        int climbs(int x) {
            ran(40);
            return super.climbs(x) * 3;
        }

        int breaks(int x) {
            ran(41);
            return super.breaks(x + 1);
        }
    }

    private static class Weak extends Worst {
        int tells(int x) {
            ran(50);
            return super.tells(x) ^ 5;
        }
    }

    private static class Late extends Climb {
        int climbs(int x) {
            ran(60);
            return super.climbs(x) - drops(2);
        }

        int tells(int x) {
            ran(61);
            return super.tells(x) + 1;
        }
    }

    private static class Told extends Plan {
        public int drops(int x) {
            ran(70);
            return super.drops(x) * 2;
        }
    }

    private static class Shards extends Told {
        int breaks(int x) {
            ran(80);
            return super.breaks(x) + climbs(2);
        }

        public int drops(int x) {
            ran(81);
            return super.drops(x) - 1;
        }
    }

    private static Plan made(int kind, int number) {
        Plan[] all = {new Plan(), new Worst(), new Mean(), new Climb(), new Weak(), new Late(), new Told(),
            new Shards()};
        all[kind].number = number;
        return all[kind];
    }

    private static int played(Plan plan, int act, int x) {
        RAN.clear();
        switch (act) {
            case 0:
                return plan.drops(x);
            case 1:
                return plan.breaks(x);
            case 2:
                return plan.climbs(x);
            default:
                return plan.tells(x);
        }
    }

    private static void compareActs(Check check) {
        int[] xs = {0, 1, -1, 5, 1000, Integer.MAX_VALUE, Integer.MIN_VALUE, 123456789, -987654321};
        TwoJars x = new TwoJars();
        // Each kind comes three times, so that low and high numbers are met.
        for (int number = 0; number < 24; number++) {
            check.due("body", x.body(number * 3 % 8), number);
        }
        for (int number = 0; number < 24; number++) {
            Plan plan = made(number * 3 % 8, number);
            for (int act = 0; act < 4; act++) {
                for (int v : xs) {
                    String call = "act(" + number + ", " + act + ", " + v + ")";
                    int want = played(plan, act, v);
                    check.due(call, x.act(number, act, v), want);
                    check.due(call + " count(3)", x.count(3), RAN.size());
                    for (int i = 0; i < RAN.size(); i++) {
                        check.due(call + " trace(" + i + ")", x.trace(i), RAN.get(i));
                    }
                    check.due(call + " trace behind", x.trace(RAN.size()), TwoJars.BAD);
                    check.due(call + " trace(-1)", x.trace(-1), TwoJars.BAD);
                }
            }
        }
    }

    private static void wrongActs(Check check) {
        int[][] wrong = {{-1, 0}, {1, 0}, {0, -1}, {0, 4}, {50, 0}, {Integer.MIN_VALUE, 0}, {0, Integer.MAX_VALUE}};
        for (int[] call : wrong) {
            TwoJars x = new TwoJars();
            check.due("trace of none", x.trace(0), TwoJars.BAD);
            check.due("count(3) of none", x.count(3), 0);
            x.body(0);
            x.act(0, 3, 9);
            check.due("count(3)", x.count(3), 4);
            check.due("wrong act", x.act(call[0], call[1], 7), 0);
            check.due("trace behind a wrong act", x.trace(0), TwoJars.BAD);
            check.due("count(3) behind a wrong act", x.count(3), 0);
        }
    }

    private static void bodies(Check check) {
        TwoJars x = new TwoJars();
        check.due("body(-1)", x.body(-1), TwoJars.BAD);
        check.due("body(8)", x.body(8), TwoJars.BAD);
        for (int number = 0; number < 50; number++) {
            check.due("count(2)", x.count(2), number);
            check.due("body", x.body(number % 8), number);
        }
        check.due("body, full", x.body(0), TwoJars.FULL);
        check.due("body(8), full", x.body(8), TwoJars.BAD);
        check.due("count(2), full", x.count(2), 50);
        check.due("act of the last", x.act(49, 0, 1), made(49 % 8, 49).drops(1));
    }

    private static void taken(Check check) {
        Class<?>[] kinds = {Plan.class, Worst.class, Mean.class, Climb.class, Weak.class, Late.class, Told.class,
            Shards.class};
        TwoJars x = new TwoJars();
        for (int kind = 0; kind < 8; kind++) {
            x.body(kind);
        }
        for (int kind = 0; kind < 8; kind++) {
            x.keep(kind % 6, kind);
            for (int k = 0; k < 8; k++) {
                long want = kinds[k].isInstance(made(kind, 0)) ? kind : -12;
                check.due("taken of " + kind + " for " + k, x.taken(kind % 6, k), want);
            }
        }
        x.keep(2, -1);
        x.row(3, 0, 1);
        check.due("taken of nothing", x.taken(2, 0), -11);
        check.due("taken of a row", x.taken(3, 0), -12);
        check.due("taken(-1, 0)", x.taken(-1, 0), TwoJars.BAD);
        check.due("taken(6, 0)", x.taken(6, 0), TwoJars.BAD);
        check.due("taken(2, -1)", x.taken(2, -1), TwoJars.BAD);
        check.due("taken(2, 8)", x.taken(2, 8), TwoJars.BAD);
    }

    public static void main(String[] args) {
        Check check = new Check("ActsTest");
        compareActs(check);
        wrongActs(check);
        bodies(check);
        taken(check);
        check.end();
    }
}
