/** Promises 7 to 13: a run of its own for each sentence of the document that names a boundary case. */
public final class PlansBoundsTest {
    private static final Check CHECK = new Check("PlansBoundsTest");

    private static void run(String sentence, String lines) {
        Script.run(CHECK, sentence, lines);
    }

    /** worst() and price() take their arguments alike. */
    private static void heightsAndJars(String call) {
        String lines = """
            CALL 9 0 = -1
            CALL 6 0 = -1
            CALL 0 0 = -1
            CALL -1 0 = -1
            CALL -9 0 = -1
            CALL -212 0 = -1
            CALL MIN 0 = -1
            CALL MAX 0 = -1
            CALL 17 0 = -1
            CALL 18 0 = -1
            CALL 19 0 = -1
            CALL 617 0 = -1
            CALL 619 0 = -1
            CALL 620 0 = -1
            CALL 621 0 = -1
            CALL 10 0 = 0
            CALL 16 0 = 0
            CALL 610 0 = -2
            CALL 212 -1 = -1
            CALL 212 2 = -1
            CALL 212 MIN = -1
            CALL 212 MAX = -1
            CALL 10 2 = -1
            CALL 20 2 = -1
            CALL 620 2 = -1
            CALL 9 1 = -1
            CALL 617 1 = -1
            """;
        run(call + ": mj: 10 times how many HEIGHTS, and JARS; 1 .. 61, 0 .. 6; BAD", lines.replace("CALL", call));
        String not = """
            CALL 20 0 = -2
            CALL 20 1 = -2
            CALL 610 0 = -2
            CALL 610 1 = -2
            CALL 10 0 = 0
            CALL 21 0 = 1
            CALL 21 1 = 1
            """;
        run(call + ": NOT: j is 0, m more than 1", "mend 3 0\n" + not.replace("CALL", call));
        String sure = """
            CALL 10 1 = -2
            CALL 11 1 = -2
            CALL 16 1 = -2
            CALL 10 0 = 0
            CALL 11 0 = 0
            CALL 16 0 = 0
            """;
        run(call + ": FIRST: NOT: SURE, too", sure.replace("CALL", call));
    }

    private static void worst() {
        heightsAndJars("worst");
        run("WORST, at the ends of HEIGHTS and JARS", """
            worst 21 0 = 1
            worst 26 0 = 1
            worst 31 0 = 2
            worst 32 0 = 2
            worst 611 0 = 60
            worst 612 0 = 11
            worst 616 0 = 6
            worst 601 0 = 59
            """);
        run("FIRST: the step, as how many above lo; the least", """
            worst 21 1 = 1
            worst 26 1 = 1
            worst 31 1 = 1
            worst 32 1 = 1
            worst 42 1 = 2
            worst 52 1 = 1
            worst 212 1 = 5
            worst 611 1 = 1
            worst 612 1 = 5
            worst 606 1 = 28
            worst 616 1 = 29
            """);
        run("mj: as many HEIGHTS as there may be, whatever the tower's STEPS and JARS", """
            mend 0 1
            mend 1 0
            worst 616 0 = 6
            worst 212 0 = 6
            price 212 0 = 24
            two 2020 2 0 = 38
            reach 206 = 60460
            """);
    }

    private static void reach() {
        run("REACH: d DROPS (0 .. 20) with j JARS (0 .. 6); BAD", """
            reach -1 = -1
            reach -10 = -1
            reach MIN = -1
            reach MAX = -1
            reach 0 = 1
            reach 6 = 1
            reach 7 = -1
            reach 8 = -1
            reach 9 = -1
            reach 206 = 60460
            reach 207 = -1
            reach 209 = -1
            reach 210 = -1
            reach 211 = -1
            reach 200 = 1
            reach 17 = -1
            """);
        run("REACH, at the ends: no DROP, no JAR, one of them", """
            reach 0 = 1
            reach 1 = 1
            reach 10 = 1
            reach 100 = 1
            reach 11 = 2
            reach 16 = 2
            reach 201 = 21
            reach 21 = 3
            reach 22 = 4
            reach 26 = 4
            reach 63 = 42
            reach 66 = 64
            reach 76 = 127
            """);
    }

    private static void meanSpans() {
        run("mean: span: lo .. hi, HEIGHTS (0 .. STEPS); BAD", """
            mean -1 2 0 = -1
            mean -20 2 0 = -1
            mean MIN 2 0 = -1
            mean MAX 2 0 = -1
            mean 0 2 0 = 0
            mean 20 2 0 = 5
            mean 21 2 0 = -1
            mean 99 2 0 = -1
            mean 100 2 0 = -1
            mean 605 2 0 = -1
            mean 2019 2 0 = -1
            mean 2020 2 0 = 0
            mean 2021 2 0 = -1
            mean 2121 2 0 = -1
            mend 0 60
            mean 60 6 1 = 61
            mean 61 6 0 = -1
            mean 6060 2 0 = 0
            mean 6061 2 0 = -1
            mean 6161 2 0 = -1
            mend 0 1
            mean 1 1 0 = 1
            mean 2 1 0 = -1
            """);
        run("mean: j JARS (0 .. 6), part 0, 1; BAD", """
            mean 20 -1 0 = -1
            mean 20 7 0 = -1
            mean 20 MIN 0 = -1
            mean 20 MAX 0 = -1
            mean 20 6 0 = 94
            mean 20 2 -1 = -1
            mean 20 2 2 = -1
            mean 20 2 MIN = -1
            mean 20 2 MAX = -1
            mean 20 0 2 = -1
            mean 21 0 0 = -1
            """);
        run("meanFirst: span, j; BAD", """
            meanFirst -1 2 = -1
            meanFirst MIN 2 = -1
            meanFirst MAX 2 = -1
            meanFirst 20 2 = 5
            meanFirst 21 2 = -1
            meanFirst 100 2 = -1
            meanFirst 2021 2 = -1
            meanFirst 1920 2 = 20
            meanFirst 20 -1 = -1
            meanFirst 20 7 = -1
            meanFirst 20 MIN = -1
            meanFirst 20 MAX = -1
            meanFirst 20 6 = 8
            meanFirst 2121 2 = -1
            meanFirst 21 0 = -1
            meanFirst 2020 7 = -1
            """);
    }

    private static void means() {
        run("MEAN: NOT: it can't be SURE", """
            mean 20 0 0 = -2
            mean 20 0 1 = -2
            mean 506 0 0 = -2
            mean 506 0 1 = -2
            mean 505 0 0 = 0
            mean 505 0 1 = 1
            mean 506 1 0 = 1
            meanFirst 20 0 = -2
            meanFirst 506 0 = -2
            meanFirst 506 1 = 6
            text 0 = 1
            mean 506 0 0 = -2
            mean 506 0 1 = -2
            meanFirst 506 0 = -2
            text h=5 = 1
            mean 506 0 0 = -2
            meanFirst 506 0 = -2
            """);
        run("FIRST of MEAN: NOT (SURE, too)", """
            meanFirst 0 2 = -2
            meanFirst 505 1 = -2
            meanFirst 505 0 = -2
            meanFirst 2020 6 = -2
            text 0 = 1
            meanFirst 505 1 = -2
            """);
        run("MEAN: a fraction in lowest terms", """
            mean 20 2 0 = 5
            mean 20 2 1 = 1
            mean 2 2 0 = 5
            mean 2 2 1 = 3
            mean 20 1 0 = 230
            mean 20 1 1 = 21
            text 3 = 1
            mean 2 2 0 = 5
            mean 2 2 1 = 3
            mean 1 1 0 = 1
            mean 1 1 1 = 1
            text 9 = 1
            mend 0 60
            mean 60 1 0 = 1890
            mean 60 1 1 = 61
            mean 60 6 0 = 363
            mean 60 6 1 = 61
            """);
        run("MEAN of what is SURE: 0, 1 below the line", """
            mean 0 0 0 = 0
            mean 0 0 1 = 1
            text 7 = 1
            mean 505 2 0 = 0
            mean 505 2 1 = 1
            text 0 = 1
            mean 505 2 0 = 0
            mean 505 2 1 = 1
            """);
        run("FIRST of MEAN: the step; the least", """
            meanFirst 2 2 = 1
            meanFirst 2 1 = 1
            meanFirst 20 2 = 5
            meanFirst 507 2 = 6
            text h=20 = 1
            meanFirst 20 2 = 20
            meanFirst 20 1 = 1
            meanFirst 1020 1 = 11
            text h=10 = 1
            meanFirst 20 2 = 10
            mean 20 2 0 = 2
            mean 20 2 1 = 1
            mean 20 1 0 = 11
            """);
        run("all 0 in a span: each counts as 1 there", """
            text 0 = 1
            mean 20 2 0 = 5
            mean 20 2 1 = 1
            meanFirst 20 2 = 5
            text h<5 = 1
            mean 520 2 0 = 35
            mean 520 2 1 = 8
            meanFirst 520 2 = 10
            mean 420 2 0 = 1
            mean 420 2 1 = 1
            meanFirst 420 2 = 5
            text h=20 = 1
            mean 2020 2 1 = 1
            mean 19 1 0 = 209
            mean 19 1 1 = 20
            """);
    }

    private static void meansOfNow() {
        run("MEAN by the law, STEPS and JARS as they are now", """
            mean 20 6 0 = 94
            mean 20 1 0 = 230
            text h=20 = 1
            mean 20 6 0 = 1
            mean 20 6 1 = 1
            mean 20 1 0 = 20
            mean 20 2 0 = 1
            text 1+ = -102
            mean 20 1 0 = 20
            text h=n = 1
            mean 20 2 0 = 1
            meanFirst 20 2 = 20
            mend 0 21
            mean 21 2 0 = 1
            meanFirst 21 2 = 21
            meanFirst 20 2 = 5
            undo
            meanFirst 20 2 = 20
            text h=j = 1
            meanFirst 20 2 = 2
            meanFirst 20 6 = 2
            mend 1 6
            meanFirst 20 6 = 6
            meanFirst 20 2 = 6
            mend 1 0
            mean 20 6 0 = 1
            meanFirst 20 6 = 1
            undo
            undo
            meanFirst 20 6 = 2
            text 1 = 1
            mean 20 6 0 = 94
            meanFirst 20 6 = 8
            """);
        run("MEAN by STEPS as they are now, where STEPS and JARS come to be alike", """
            mend 0 5
            text 9*(h=n-1) = 1
            meanFirst 5 1 = 1
            mean 2 1 0 = 5
            mean 2 1 1 = 3
            mend 0 2
            mean 2 1 0 = 2
            mean 2 1 1 = 1
            mend 0 5
            mean 2 1 0 = 5
            mean 2 1 1 = 3
            """);
        run("a SPAN's WEIGHTS from its lo on, those below it are none of them", """
            text 9-h = 1
            mean 1 1 0 = 1
            mean 1 1 1 = 1
            mean 102 1 0 = 1
            mean 102 1 1 = 1
            mean 103 1 0 = 34
            mean 103 1 1 = 21
            mean 203 1 0 = 1
            mean 203 1 1 = 1
            mean 204 1 0 = 29
            mean 204 1 1 = 18
            """);
    }

    private static void trodden() {
        run("TRODDEN: STEPS at most 24, else STATE", """
            mend 0 24
            trodden 24 1 0 = 24
            trodden 24 1 1 = 1
            mend 0 25
            trodden 24 1 0 = -5
            trodden 25 1 0 = -5
            trodden 24 1 1 = -5
            mend 0 60
            trodden 1 1 0 = -5
            undo
            undo
            trodden 24 1 0 = 24
            """);
        run("BAD ahead of STATE, STATE ahead of NOT and of SURE", """
            mend 0 25
            trodden 26 1 0 = -1
            trodden 25 261 0 = -1
            trodden 25 7 0 = -1
            trodden 25 1 2 = -1
            trodden 25 0 0 = -5
            trodden 505 1 0 = -5
            trodden 505 1 1 = -5
            """);
        run("trodden: span, BAD", """
            trodden -1 1 0 = -1
            trodden MIN 1 0 = -1
            trodden MAX 1 0 = -1
            trodden 20 1 0 = 20
            trodden 21 1 0 = -1
            trodden 100 1 0 = -1
            trodden 2020 1 0 = 0
            trodden 2021 1 0 = -1
            trodden 2121 1 0 = -1
            """);
        run("trodden: a (0 .. STEPS), JARS (0 .. 6), what 0, 1; BAD", """
            trodden 20 -1 0 = -1
            trodden 20 -10 0 = -1
            trodden 20 MIN 0 = -1
            trodden 20 MAX 0 = -1
            trodden 20 1 0 = 20
            trodden 20 6 0 = 20
            trodden 20 7 0 = -1
            trodden 20 9 0 = -1
            trodden 20 201 0 = 38
            trodden 20 211 0 = -1
            trodden 20 217 0 = -1
            trodden 20 1 -1 = -1
            trodden 20 1 2 = -1
            trodden 20 1 MIN = -1
            trodden 20 1 MAX = -1
            trodden 505 0 2 = -1
            trodden 505 211 0 = -1
            mend 0 24
            trodden 2324 211 0 = 3
            trodden 2324 241 0 = 0
            trodden 2324 251 0 = -1
            trodden 24 241 0 = 46
            """);
        run("trodden: NOT", """
            trodden 20 0 0 = -2
            trodden 20 0 1 = -2
            trodden 506 0 0 = -2
            trodden 506 50 1 = -2
            trodden 506 51 0 = 1
            trodden 506 51 1 = 6
            """);
        run("trodden: FIRST: NOT: SURE, too", """
            trodden 505 0 0 = 0
            trodden 505 0 1 = -2
            trodden 505 201 0 = 0
            trodden 505 201 1 = -2
            trodden 0 6 1 = -2
            """);
        run("trodden: FIRST of these (the least)", """
            trodden 3 2 0 = 3
            trodden 3 2 1 = 1
            trodden 3 33 0 = 2
            trodden 3 33 1 = 2
            trodden 5 26 0 = 3
            trodden 5 26 1 = 2
            trodden 2 22 0 = 1
            trodden 2 22 1 = 2
            trodden 2 21 0 = 2
            trodden 2 21 1 = 1
            mend 0 24
            trodden 24 246 0 = 23
            trodden 24 246 1 = 13
            trodden 24 2 1 = 1
            trodden 24 122 0 = 18
            trodden 24 122 1 = 9
            """);
    }

    private static void price() {
        heightsAndJars("price");
        run("PRICE, at the ends of both PRICES (0 .. 99)", """
            mend 2 0
            mend 3 0
            price 212 0 = 0
            price 212 1 = 1
            price 612 0 = 0
            price 612 1 = 1
            price 10 1 = -2
            price 20 0 = -2
            mend 3 10
            price 212 0 = 10
            price 212 1 = 1
            mend 2 1
            mend 3 0
            price 212 0 = 6
            price 212 1 = 5
            mend 2 99
            mend 3 99
            price 611 0 = 6039
            price 611 1 = 1
            price 616 0 = 990
            price 616 1 = 6
            """);
        run("PRICE by the PRICE of a DROP as it is now", """
            price 212 0 = 24
            mend 2 0
            price 212 0 = 10
            price 212 1 = 1
            undo
            price 212 0 = 24
            redo
            price 212 0 = 10
            mend 3 0
            price 212 0 = 0
            mend 2 2
            price 212 0 = 12
            """);
        run("PRICE by the PRICE of a JAR as it is now", """
            price 212 0 = 24
            mend 3 0
            price 212 0 = 6
            undo
            price 212 0 = 24
            price 212 1 = 4
            redo
            price 212 0 = 6
            price 212 1 = 5
            worst 212 0 = 6
            """);
    }

    private static void two() {
        run("TWO TOWERS of m1 and m2 HEIGHTS (1 .. 31 each); BAD", """
            two -1 2 0 = -1
            two -101 2 0 = -1
            two MIN 2 0 = -1
            two MAX 2 0 = -1
            two 0 2 0 = -1
            two 1 2 0 = -1
            two 31 2 0 = -1
            two 100 2 0 = -1
            two 101 2 0 = 0
            two 131 6 0 = 5
            two 132 6 0 = -1
            two 199 6 0 = -1
            two 3100 6 0 = -1
            two 3101 6 0 = 5
            two 3131 6 0 = 11
            two 3132 6 0 = -1
            two 3201 6 0 = -1
            two 3231 6 0 = -1
            """);
        run("two: j JARS (0 .. 6), what 0, 1; BAD", """
            two 505 -1 0 = -1
            two 505 7 0 = -1
            two 505 MIN 0 = -1
            two 505 MAX 0 = -1
            two 505 2 -1 = -1
            two 505 2 2 = -1
            two 505 2 MIN = -1
            two 505 2 MAX = -1
            two 101 7 0 = -1
            two 101 0 2 = -1
            """);
        run("two: NOT", """
            two 102 0 0 = -2
            two 102 0 1 = -2
            two 201 0 0 = -2
            two 3131 0 0 = -2
            two 202 1 0 = -2
            two 202 1 1 = -2
            two 3131 1 0 = -2
            two 3131 1 1 = -2
            two 102 1 0 = 1
            two 202 2 0 = 2
            """);
        run("two: the tower: NOT: both SURE", """
            two 101 0 0 = 0
            two 101 0 1 = -2
            two 101 6 0 = 0
            two 101 6 1 = -2
            """);
        run("in which the first one is (0, 1; of like ones 0)", """
            two 102 1 1 = 1
            two 201 1 1 = 0
            two 131 1 0 = 30
            two 131 1 1 = 1
            two 3101 1 1 = 0
            two 202 2 1 = 0
            two 2020 2 1 = 0
            two 519 3 1 = 0
            two 1905 3 1 = 0
            two 405 3 1 = 1
            two 504 3 1 = 0
            two 405 3 0 = 5
            two 504 3 0 = 5
            two 804 3 1 = 0
            two 408 3 1 = 1
            """);
    }

    public static void main(String[] args) {
        worst();
        reach();
        meanSpans();
        means();
        meansOfNow();
        trodden();
        price();
        two();
        CHECK.end();
    }
}
