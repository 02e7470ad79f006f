/** Promises 14 to 20: a run of its own for each sentence of the document that names a boundary case. */
public final class RulesBoundsTest {
    private static final Check CHECK = new Check("RulesBoundsTest");

    private static void run(String sentence, String lines) {
        Script.run(CHECK, sentence, lines);
    }

    private static void ruled() {
        run("ruled: rule 0, 1, HEIGHT (0 .. STEPS), what 0, 1; BAD", """
            ruled -1 0 0 = -1
            ruled 2 0 0 = -1
            ruled MIN 0 0 = -1
            ruled MAX 0 0 = -1
            ruled 0 -1 0 = -1
            ruled 0 21 0 = -1
            ruled 0 MIN 0 = -1
            ruled 0 MAX 0 = -1
            ruled 0 0 -1 = -1
            ruled 0 0 2 = -1
            ruled 0 0 MIN = -1
            ruled 0 0 MAX = -1
            ruled 0 0 0 = 2
            ruled 0 0 1 = 2
            ruled 0 20 0 = 6
            ruled 0 20 1 = 0
            ruled 1 0 0 = 2
            ruled 1 20 1 = 0
            mend 0 60
            ruled 0 60 0 = 11
            ruled 0 61 0 = -1
            mend 0 1
            ruled 0 1 0 = 1
            ruled 0 2 0 = -1
            """);
        run("ruled: NOT: the RULE can't be", """
            mend 1 0
            ruled 0 0 0 = -2
            ruled 0 20 1 = -2
            ruled 1 0 0 = -2
            ruled 1 20 1 = -2
            ruled 2 0 0 = -1
            ruled 0 21 0 = -1
            ruled 0 0 2 = -1
            mend 0 1
            ruled 0 0 0 = -2
            ruled 1 1 1 = -2
            mend 1 1
            ruled 0 0 0 = 1
            ruled 0 0 1 = 1
            ruled 1 1 0 = 1
            ruled 1 1 1 = 0
            """);
        run("THE RULE, at the ends of STEPS and JARS", """
            mend 0 60
            mend 1 1
            ruled 0 60 0 = 60
            ruled 0 60 1 = 0
            ruled 0 59 0 = 60
            ruled 0 59 1 = 1
            ruled 1 60 0 = 60
            ruled 0 0 0 = 1
            ruled 0 0 1 = 1
            mend 1 6
            ruled 0 60 0 = 6
            ruled 0 0 0 = 4
            ruled 0 0 1 = 4
            """);
        run("THE RULE by MEAN where all WEIGHTS are 0", """
            text 0 = 1
            ruled 1 0 0 = 2
            step 1 0 0 = 5
            step 1 0 1 = 1
            ruled 1 9 0 = 6
            step 1 9 2 = 6
            step 1 20 5 = 20
            text h>18 = 1
            step 1 3 0 = 19
            step 1 3 1 = 1
            step 1 3 4 = 4
            ruled 1 3 0 = 5
            ruled 1 3 1 = 2
            ruled 1 20 0 = 2
            text h<2 = 1
            step 1 9 0 = 1
            step 1 9 1 = 2
            step 1 9 2 = 7
            step 1 9 3 = 11
            ruled 1 9 0 = 7
            """);
    }

    private static void step() {
        run("step: rule, HEIGHT, k (0 on); BAD", """
            step -1 0 0 = -1
            step 2 0 0 = -1
            step MIN 0 0 = -1
            step MAX 0 0 = -1
            step 0 -1 0 = -1
            step 0 21 0 = -1
            step 0 MIN 0 = -1
            step 0 MAX 0 = -1
            step 0 0 -1 = -1
            step 0 0 MIN = -1
            step 0 0 0 = 5
            step 0 20 0 = 5
            mend 0 60
            step 0 60 0 = 5
            step 0 61 0 = -1
            """);
        run("step: NOT: there are not as many", """
            step 0 0 0 = 5
            step 0 0 1 = 1
            step 0 0 2 = -2
            step 0 0 60 = -2
            step 0 0 61 = -2
            step 0 0 MAX = -2
            step 1 20 5 = 20
            step 1 20 6 = -2
            step 0 20 5 = 20
            step 0 20 6 = -2
            step 0 0 2 = -2
            mend 0 60
            mend 1 1
            step 0 60 59 = 60
            step 0 60 60 = -2
            step 0 0 1 = -2
            step 0 0 0 = 1
            """);
        run("step: NOT: the RULE can't be", """
            mend 1 0
            step 0 0 0 = -2
            step 1 20 0 = -2
            step 0 0 -1 = -1
            step 2 0 0 = -1
            step 0 21 0 = -1
            """);
    }

    private static void shards() {
        run("shards: Long.MIN_VALUE: BAD", """
            shards -1 0 = LMIN
            shards 2 0 = LMIN
            shards MIN 0 = LMIN
            shards MAX 0 = LMIN
            shards 0 -1 = LMIN
            shards 0 -10 = LMIN
            shards 0 MIN = LMIN
            shards 1 -1 = LMIN
            """);
        run("SHARDS: just d DROPS and just b JARS; none: 0", """
            shards 0 0 = 0
            shards 0 22 = 1
            shards 0 21 = 0
            shards 0 32 = 34
            shards 0 51 = 16
            shards 0 62 = 168192
            shards 0 61 = 860672
            shards 0 60 = 1048576
            shards 0 63 = 0
            shards 0 70 = 0
            shards 0 69 = 0
            shards 0 620 = 0
            shards 0 MAX = 0
            """);
        run("SHARDS: bits, a long: HEIGHT 60 too", """
            mend 0 60
            mend 1 1
            shards 0 600 = 1152921504606846976
            shards 0 601 = 576460752303423488
            shards 1 600 = 1152921504606846976
            shards 0 321 = 2147483648
            shards 0 331 = 4294967296
            shards 0 11 = 1
            """);
        run("SHARDS: NOT; BAD ahead of it", """
            mend 1 0
            shards 0 0 = -2
            shards 1 62 = -2
            shards 0 MAX = -2
            shards 2 0 = LMIN
            shards 0 -1 = LMIN
            """);
    }

    private static void shelvesOf(String call) {
        String lines = """
            judge 0 = -11
            body 2
            keep 1 0
            lay 2 1 5 1
            lay 3 2 5 1
            lay 4 3 5 1
            lay 5 4 1 1
            CALL -1 ARG = -1
            CALL 6 ARG = -1
            CALL MIN ARG = -1
            CALL MAX ARG = -1
            CALL 0 ARG = -11
            CALL 1 ARG = -12
            CALL 2 ARG = -12
            CALL 3 ARG = -12
            CALL 4 ARG = -12
            CALL 5 ARG = -12
            keep 1 -1
            CALL 1 ARG = -11
            keep 5 -1
            CALL 5 ARG = -11
            """;
        run(call + ": BAD, -11, -12 (no ROW of bytes)", lines.replace("CALL", call)
            .replace(" ARG", call.equals("left") ? " 0" : ""));
    }

    private static void judge() {
        shelvesOf("judge");
        run("JUDGED: NOT: all of them can be; none at all, too", """
            row 0 0 0
            judge 0 = -2
            lay 0 0 5 1
            judge 0 = -2
            lay 0 0 5 1 4 0
            judge 0 = -2
            mend 1 0
            row 0 0 0
            judge 0 = -2
            """);
        run("no step of the TOWER", """
            lay 0 0 0 1
            judge 0 = 0
            lay 0 0 0 0
            judge 0 = 0
            lay 0 0 -1 0
            judge 0 = 0
            lay 0 0 1 0
            judge 0 = -2
            lay 0 0 20 1
            judge 0 = -2
            lay 0 0 21 1
            judge 0 = 0
            lay 0 0 127 1
            judge 0 = 0
            lay 0 0 -128 0
            judge 0 = 0
            lay 0 0 1 0 21 1
            judge 0 = 1
            lay 0 0 1 0 2 0 0 0
            judge 0 = 2
            mend 0 60
            lay 0 0 60 1
            judge 0 = -2
            lay 0 0 61 1
            judge 0 = 0
            mend 0 1
            lay 0 0 1 1
            judge 0 = -2
            lay 0 0 2 1
            judge 0 = 0
            """);
        run("no 0 or 1", """
            lay 0 0 5 2
            judge 0 = 0
            lay 0 0 5 -1
            judge 0 = 0
            lay 0 0 5 127
            judge 0 = 0
            lay 0 0 5 -128
            judge 0 = 0
            lay 0 0 5 0
            judge 0 = -2
            lay 0 0 5 1
            judge 0 = -2
            lay 0 0 5 1 3 0 4 2
            judge 0 = 2
            lay 0 0 5 256
            judge 0 = -2
            lay 0 0 5 257
            judge 0 = -2
            left 0 1 = 4
            """);
        run("no JAR left", """
            lay 0 0 9 1 8 1
            judge 0 = -2
            lay 0 0 9 1 8 1 7 1
            judge 0 = 2
            lay 0 0 9 1 8 1 7 0
            judge 0 = 2
            mend 1 1
            lay 0 0 9 1 8 1
            judge 0 = 1
            lay 0 0 9 1 8 0
            judge 0 = 1
            lay 0 0 3 0 9 1
            judge 0 = -2
            mend 1 0
            lay 0 0 9 1
            judge 0 = 0
            lay 0 0 9 0
            judge 0 = 0
            mend 1 6
            lay 0 0 9 1 8 1 7 1 6 1 5 1 4 1
            judge 0 = -2
            lay 0 0 9 1 8 1 7 1 6 1 5 1 4 1 3 1
            judge 0 = 6
            """);
    }

    private static void judgeMore() {
        run("that can't be, against those ahead", """
            lay 0 0 10 0 10 1
            judge 0 = 1
            lay 0 0 10 0 9 1
            judge 0 = 1
            lay 0 0 10 0 11 1
            judge 0 = -2
            lay 0 0 10 0 10 0
            judge 0 = -2
            lay 0 0 10 0 1 0
            judge 0 = -2
            lay 0 0 10 1 10 0
            judge 0 = 1
            lay 0 0 10 1 9 0
            judge 0 = -2
            lay 0 0 10 1 10 1
            judge 0 = -2
            lay 0 0 10 1 20 1
            judge 0 = -2
            lay 0 0 10 1 9 0 9 1
            judge 0 = 2
            lay 0 0 10 1 9 0 10 0
            judge 0 = 2
            lay 0 0 20 0 20 1
            judge 0 = 1
            lay 0 0 1 1 1 0
            judge 0 = 1
            lay 0 0 1 1 1 1
            judge 0 = -2
            """);
        run("a two's end that lacks", """
            lay 0 0 5
            judge 0 = 0
            lay 0 0 5 1 4
            judge 0 = 1
            lay 0 0 5 1 4 0 3
            judge 0 = 2
            lay 0 0 99
            judge 0 = 0
            row 0 0 59
            judge 0 = 0
            """);
        run("the first two that can't be", """
            lay 0 0 21 1 5 2 7
            judge 0 = 0
            lay 0 0 5 0 5 2 7
            judge 0 = 1
            lay 0 0 5 0 6 0 7
            judge 0 = 2
            """);
        StringBuilder long60 = new StringBuilder("lay 0 0");
        for (int i = 1; i <= 30; i++) {
            long60.append(" 1 0");
        }
        run("a ROW of 60: thirty twos", long60 + """

            judge 0 = -2
            put 0 58 0
            judge 0 = 29
            put 0 58 1
            put 0 59 2
            judge 0 = 29
            left 0 0 = -5
            put 0 59 0
            left 0 0 = 1
            """);
        run("by the TOWER as it is now", """
            lay 0 0 15 0
            judge 0 = -2
            mend 0 14
            judge 0 = 0
            undo
            judge 0 = -2
            mend 1 0
            judge 0 = 0
            """);
    }

    private static void left() {
        shelvesOf("left");
        run("left: what 0 .. 2; BAD ahead of -11, -12, STATE", """
            left 0 -1 = -1
            left 0 3 = -1
            left 0 MIN = -1
            left 0 MAX = -1
            row 0 1 2
            left 0 3 = -1
            row 0 0 1
            left 0 3 = -1
            left 0 2 = -5
            row 0 0 0
            left 0 -1 = -1
            left 0 2 = 2
            """);
        run("LEFT behind none: lo 0, hi STEPS, JARS", """
            row 0 0 0
            left 0 0 = 0
            left 0 1 = 20
            left 0 2 = 2
            mend 0 60
            mend 1 0
            left 0 1 = 60
            left 0 2 = 0
            """);
        run("LEFT: STATE, if one can't be", """
            lay 0 0 5 1 4
            left 0 0 = -5
            left 0 1 = -5
            left 0 2 = -5
            lay 0 0 5 1 5 0
            left 0 0 = -5
            lay 0 0 5 2
            left 0 1 = -5
            lay 0 0 21 1
            left 0 2 = -5
            lay 0 0 9 1 8 1 7 1
            left 0 2 = -5
            """);
        run("LEFT, at the ends of a SPAN", """
            lay 0 0 1 1
            left 0 0 = 0
            left 0 1 = 0
            left 0 2 = 1
            lay 0 0 20 0
            left 0 0 = 20
            left 0 1 = 20
            left 0 2 = 2
            lay 0 0 1 0
            left 0 0 = 1
            left 0 1 = 20
            lay 0 0 20 1
            left 0 0 = 0
            left 0 1 = 19
            lay 0 0 10 0 5 0 15 1 20 1
            left 0 0 = 10
            left 0 1 = 14
            left 0 2 = 0
            lay 0 0 10 1 9 0
            left 0 0 = 9
            left 0 1 = 9
            left 0 2 = 1
            """);
    }

    private static void wise() {
        shelvesOf("wise");
        run("WISE: STATE, if one can't be", """
            lay 0 0 5 1 4
            wise 0 = -5
            lay 0 0 5 1 5 0
            wise 0 = -5
            lay 0 0 5 2
            wise 0 = -5
            lay 0 0 0 0
            wise 0 = -5
            """);
        run("a DROP by which WORST could still be had", """
            row 0 0 0
            wise 0 = 0
            lay 0 0 4 0
            wise 0 = 0
            lay 0 0 5 0
            wise 0 = 1
            lay 0 0 6 0
            wise 0 = 1
            lay 0 0 6 1
            wise 0 = 1
            lay 0 0 7 0
            wise 0 = 0
            lay 0 0 1 1
            wise 0 = 0
            lay 0 0 20 0
            wise 0 = 0
            """);
        run("of the SPAN and JARS at that time", """
            lay 0 0 5 0 10 0 14 0
            wise 0 = 3
            lay 0 0 4 0 5 0
            wise 0 = 1
            lay 0 0 4 0 3 0
            wise 0 = 0
            lay 0 0 5 1 1 0 2 0
            wise 0 = 3
            lay 0 0 5 1 2 0
            wise 0 = 1
            lay 0 0 5 1 3 0 4 1
            wise 0 = 2
            lay 0 0 10 0 11 0
            wise 0 = 0
            lay 0 0 10 0 14 0
            wise 0 = 1
            """);
        run("a DROP that tells nothing is none of them, nor one when SURE", """
            lay 0 0 5 0 5 0
            wise 0 = 1
            lay 0 0 5 0 1 0
            wise 0 = 1
            lay 0 0 5 1 5 1
            wise 0 = 1
            mend 0 1
            lay 0 0 1 0
            wise 0 = 1
            lay 0 0 1 0 1 0
            wise 0 = 1
            lay 0 0 1 1 1 1
            wise 0 = 1
            """);
        run("WISE with one JAR", """
            mend 1 1
            lay 0 0 1 0 2 0 3 0
            wise 0 = 3
            lay 0 0 2 0 3 0
            wise 0 = 1
            lay 0 0 2 1
            wise 0 = 0
            mend 1 0
            row 0 0 0
            wise 0 = 0
            """);
    }

    private static void drawn() {
        run("drawn: rn: 100 times the RULE (0, 1), and n (1 .. 60); BAD", """
            drawn 0 0 0 = -1
            drawn 0 -1 0 = -1
            drawn 0 -100 0 = -1
            drawn 0 -101 0 = -1
            drawn 0 MIN 0 = -1
            drawn 0 MAX 0 = -1
            drawn 0 1 0 = 4
            drawn 0 60 0 = 314
            drawn 0 61 0 = -1
            drawn 0 99 0 = -1
            drawn 0 100 0 = -1
            drawn 0 101 0 = 4
            drawn 0 160 0 = 314
            drawn 0 161 0 = -1
            drawn 0 199 0 = -1
            drawn 0 200 0 = -1
            drawn 0 201 0 = -1
            """);
        run("drawn: what 0, 1; BAD", """
            drawn 0 1 -1 = -1
            drawn 0 1 2 = -1
            drawn 0 1 MIN = -1
            drawn 0 1 MAX = -1
            drawn 0 1 1 = 2
            """);
        run("drawn: NOT; BAD ahead of it", """
            mend 1 0
            drawn 0 1 0 = -2
            drawn 0 160 1 = -2
            drawn 0 0 0 = -1
            drawn 0 61 0 = -1
            drawn 0 1 2 = -1
            drawn 0 200 0 = -1
            """);
        run("z is an int that wraps; (z >>> 8), SEED at first", """
            drawn -1 1 0 = 5
            drawn -1 2 0 = 11
            drawn -1 60 0 = 298
            drawn -1 60 1 = 100
            drawn MAX 60 0 = 310
            drawn MAX 60 1 = 96
            drawn MIN 1 0 = 6
            drawn MIN 59 0 = 297
            drawn MIN 60 0 = 302
            drawn MIN 60 1 = 95
            drawn 7 59 1 = 99
            drawn 7 1 0 = 3
            """);
        run("DRAWN, all WEIGHTS 0: each counts as 1", """
            drawn 5 60 0 = 295
            text 0 = 1
            drawn 5 60 0 = 295
            drawn 5 60 1 = 97
            drawn 5 160 0 = 295
            drawn 5 160 1 = 97
            """);
        run("counted out by HEIGHTS: those without a WEIGHT are none of them", """
            text h=13 = 1
            drawn 5 60 0 = 360
            drawn 5 60 1 = 60
            drawn 5 160 0 = 120
            drawn 5 160 1 = 60
            text h=0|h=20?9 = 1
            drawn 5 60 0 = 232
            drawn 5 60 1 = 64
            drawn 5 160 0 = 88
            drawn 5 160 1 = 32
            """);
        run("DRAWN from the greatest TOWER, by the greatest WEIGHTS", """
            text 9 = 1
            mend 0 60
            mend 1 6
            drawn MAX 60 0 = 356
            drawn MAX 160 0 = 354
            drawn MAX 160 1 = 180
            """);
        run("in thought: nothing is hidden by it", """
            drawn 5 60 0
            led 0 = -5
            count 1 = 0
            """);
    }

    public static void main(String[] args) {
        ruled();
        step();
        shards();
        judge();
        judgeMore();
        left();
        wise();
        drawn();
        CHECK.end();
    }
}
