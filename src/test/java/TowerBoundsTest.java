/** Promises 1 to 6: a run of its own for each sentence of the document that names a boundary case. */
public final class TowerBoundsTest {
    private static final Check CHECK = new Check("TowerBoundsTest");

    private static void run(String sentence, String lines) {
        Script.run(CHECK, sentence, lines);
    }

    private static void newObject() {
        run("TwoJars(): nothing is hidden", """
            led 0 = -5
            led 1 = -5
            led 2 = -5
            led 3 = -5
            led 4 = 0
            led 5 = 0
            image = 0
            drop 1 = -5
            guess 0 = -5
            lay 0 0 1
            drops 0 0 1 = -5
            """);
        run("STEPS 20, JARS 2, PRICES 1 and 10 at first", """
            of 0 = 20
            of 1 = 2
            of 2 = 1
            of 3 = 10
            """);
        run("a new object has no bytes, changes, bodies, images", """
            count 0 = 0
            count 1 = 0
            count 2 = 0
            count 3 = 0
            undo = -5
            redo = -5
            back = -5
            trace 0 = -1
            """);
    }

    private static void numbersOfTheTower() {
        run("STEPS (1 .. 60)", """
            mend 0 0 = -1
            mend 0 -1 = -1
            mend 0 61 = -1
            mend 0 MAX = -1
            mend 0 MIN = -1
            of 0 = 20
            mend 0 1 = 20
            of 0 = 1
            mend 0 60 = 1
            of 0 = 60
            mend 0 61 = -1
            of 0 = 60
            """);
        run("JARS (0 .. 6)", """
            mend 1 -1 = -1
            mend 1 7 = -1
            mend 1 MAX = -1
            mend 1 MIN = -1
            of 1 = 2
            mend 1 0 = 2
            of 1 = 0
            mend 1 6 = 0
            of 1 = 6
            """);
        run("PRICE of a DROP (0 .. 99)", """
            mend 2 -1 = -1
            mend 2 100 = -1
            mend 2 MAX = -1
            mend 2 MIN = -1
            of 2 = 1
            mend 2 0 = 1
            of 2 = 0
            mend 2 99 = 0
            of 2 = 99
            """);
        run("PRICE of a JAR (0 .. 99)", """
            mend 3 -1 = -1
            mend 3 100 = -1
            mend 3 MAX = -1
            mend 3 MIN = -1
            of 3 = 10
            mend 3 0 = 10
            of 3 = 0
            mend 3 99 = 0
            of 3 = 99
            """);
        run("mend: what 0 .. 3, BAD", """
            mend -1 1 = -1
            mend 4 1 = -1
            mend MIN 1 = -1
            mend MAX 1 = -1
            mend 4 200 = -1
            of 0 = 20
            of 1 = 2
            of 2 = 1
            of 3 = 10
            """);
        run("of: what 0 .. 3, BAD", """
            of -1 = -1
            of 4 = -1
            of MIN = -1
            of MAX = -1
            """);
        run("a refused mend changes nothing, and is no CHANGE", """
            mend 2 50
            undo = 0
            mend 2 100 = -1
            mend 4 1 = -1
            count 1 = 0
            redo = 0
            of 2 = 50
            """);
    }

    private static void tape() {
        run("A byte (0 .. 255)", """
            feed -1 = -1
            feed 256 = -1
            feed MIN = -1
            feed MAX = -1
            feed 305 = -1
            count 0 = 0
            feed 0 = 1
            feed 255 = 2
            count 0 = 2
            """);
        run("FULL (120): the tape takes 120 bytes", """
            times 118 feed 45
            feed 49 = 119
            feed 49 = 120
            feed 49 = -3
            feed 0 = -3
            count 0 = 120
            """);
        run("BAD ahead of FULL", """
            times 120 feed 49
            feed 256 = -1
            feed -1 = -1
            """);
        run("what is FULL changes nothing: the bytes behind the 120th are not kept", """
            times 60 feed 33
            times 60 feed 49
            feed 49 = -3
            feed 41 = -3
            count 0 = 120
            law = -106
            feed 49 = 1
            law = 1
            """);
        run("THE TAPE is empty then: behind a law and behind a FAULT", """
            feed 55
            law = 1
            count 0 = 0
            feed 56 = 1
            law = 1
            weight 0 = 8
            feed 42
            law = -100
            count 0 = 0
            feed 53 = 1
            law = 1
            weight 0 = 5
            """);
        run("behind a FAULT the law is as it was", """
            text 1+ = -102
            weight 0 = 1
            text 4 = 1
            text 5) = -101
            weight 0 = 4
            text = -100
            weight 0 = 4
            """);
        run("a tape of 120 bytes is empty behind law, too", """
            times 120 feed 49
            law = -104
            count 0 = 0
            times 119 feed 49
            feed 49 = 120
            feed 49 = -3
            """);
    }

    private static void places() {
        run("LINES, one or more, parted by ;", """
            text = -100
            text ; = -100
            text 1; = -102
            text 1;; = -102
            text 1;;1 = -102
            text ;1 = -100
            text 1;2 = 1
            text 1;1;1;1;1;1;1;1;1;1;1;1;1;1;1;1;1;1;1;1;1;1;1;1;1;1;1;1;1;1;1;1;1;1;1;1;1;1;1;1;1;1;1;1;1;1;1;1;1;1;1;1;1;1;1;1;1;1;1;1 = 1
            text 1?1;1?1;1?1;1?1;1?1;1?1;1?1;1?1;1?1;1?1;1?1;1?1;1?1;1?1;1?1;1?1;1?1;1?1;1?1;1?1;1?1;1?1;1?1;1?1;1?1;1?1;1?1;1?1;1?1;1?11 = 1
            """);
        run("LINE: E, or E ? E", """
            text 1?2 = 1
            text 1? = -102
            text ?1 = -100
            text 1?2?3 = -103
            text 1?? = -102
            text 1?2;3?4 = 1
            text 1?2;3?4?5 = -107
            text (1?2) = -102
            text (1;2) = -102
            text 1?;2 = -102
            """);
        run("S, or S < S, S = S, S > S: one of them", """
            text 1<2 = 1
            text 1<2<3 = -103
            text 1<2=3 = -103
            text 1=2>3 = -103
            text 1>2>3 = -103
            text 1== = -102
            text 1<=2 = -102
            text (1<2)<3 = 1
            text 1<(2<3) = 1
            text 1<2&3<4 = 1
            text 1<2|3<4 = 1
            text 1<2?3<4 = 1
            text 1<2;3<4 = 1
            text 1<2+3 = 1
            text 1<2+3<4 = -105
            text (1<2<3) = -104
            """);
        run("a number (1 to 4 digits)", """
            text 0 = 1
            text 9 = 1
            text 9999 = 1
            text 0000 = 1
            text 10000 = -104
            text 00000 = -104
            text 1+12345 = -106
            text (12345) = -105
            text 12345+ = -104
            text 1234+1234 = 1
            """);
        run("No blanks", """
            feed 32
            feed 49
            law = -100
            feed 49
            feed 32
            law = -101
            feed 49
            feed 43
            feed 32
            law = -102
            """);
        run("NAMES: h, n, j", """
            text h = 1
            text n = 1
            text j = 1
            text H = -100
            text a = -100
            text g = -100
            text i = -100
            text k = -100
            text m = -100
            text o = -100
            text hh = -101
            text h1 = -101
            text 1h = -101
            text n(1) = -101
            """);
        run("a byte of no TEXT at all", """
            feed 0
            law = -100
            feed 255
            law = -100
            feed 49
            feed 128
            law = -101
            feed 49
            feed 177
            law = -101
            text 1+"2 = -102
            text 1$2 = -101
            text : = -100
            text 1: = -101
            text 1/ = -102
            text 1. = -101
            text / = -100
            text @ = -100
            """);
    }

    private static void open() {
        run("At most 6 of ( are open at once", """
            text ((((((1)))))) = 1
            text (((((((1))))))) = -106
            text ((((((( = -106
            text (((((( = -106
            text ((((((1 = -107
            text ((((((1))))) = -112
            text ((((((1))))))+((((((1)))))) = 1
            text ((((((1))))))+(((((((1))))))) = -120
            text ((((((1)+(1)+(1)))))) = 1
            text ((((((1)+((1))))))) = -110
            """);
        run("At most 6 of ! are open at once", """
            text !!!!!!1 = 1
            text !!!!!!!1 = -106
            text !!!!!! = -106
            text !!!!!!1+!!!!!!1 = 1
            text !!!!!!1+!!!!!!!1 = -114
            """);
        run("At most 6 of - ahead of an O are open at once", """
            text ------1 = 1
            text -------1 = -106
            text 1------1 = 1
            text 1-------1 = 1
            text 1--------1 = -108
            """);
        run("At most 6 of ( ! - together are open at once", """
            text -(-(-(1))) = 1
            text -(-(-(-1))) = -106
            text !(-(!(h))) = 1
            text !(-(!((h)))) = -106
            text (1)+(!(-(!(-(1))))) = -110
            text !-(!-(1)) = 1
            text !-(!-(!1)) = -106
            """);
        run("what is behind its O is open no more", """
            text !1+((((((1)))))) = 1
            text -1*((((((1)))))) = 1
            text (1)-((((((1)))))) = 1
            text !(1)&((((((1)))))) = 1
            text (!1+(((((1)))))) = 1
            text (!1+((((((1))))))) = -109
            text (-(1)*(((((1)))))) = 1
            text (-(1)*((((((1))))))) = -111
            """);
        run("At most 6 are open at once behind ? and ; as well", """
            text 1?((((((1)))))) = 1
            text 1?(((((((1))))))) = -108
            text ((((((1))))))?!!!!!!1 = 1
            text (((((((1)))))))?1 = -106
            text 1;((((((1)))))) = 1
            text 1;(((((((1))))))) = -108
            text 1?2;-------1 = -110
            text 1?2;------1?------1 = 1
            text 1?2;------1?-------1 = -118
            """);
    }

    private static void faults() {
        run("FAULT: the length, if it ends too early", """
            text = -100
            text ( = -101
            text ! = -101
            text - = -101
            text 1+ = -102
            text 1- = -102
            text 1* = -102
            text 1/ = -102
            text 1% = -102
            text 1| = -102
            text 1& = -102
            text 1< = -102
            text 1= = -102
            text 1> = -102
            text 1? = -102
            text 1; = -102
            text (1 = -102
            text (1+2 = -104
            text (1)+(2 = -106
            text (1234 = -105
            text 1234?(5678 = -110
            """);
        run("FAULT: the first byte with which no TEXT goes on", """
            text ) = -100
            text () = -101
            text 1) = -101
            text (1)) = -103
            text 1+) = -102
            text 1+* = -102
            text 1|&2 = -102
            text 1&|2 = -102
            text 1!2 = -101
            text 1(2) = -101
            text (1)(2) = -103
            text (1)2 = -103
            text !) = -101
            text -* = -101
            text +1 = -100
            text *1 = -100
            text 1-+1 = -102
            text 1?) = -102
            text 1;) = -102
            text 1)+( = -101
            text (1?2) = -102
            """);
        longFault();
    }

    /** A text that ends too early with the tape full: the FAULT is 120. */
    private static void longFault() {
        StringBuilder lines = new StringBuilder();
        for (int i = 0; i < 60; i++) {
            lines.append("feed 49\nfeed 43 = ").append(2 * i + 2).append('\n');
        }
        run("the length, if it ends too early: 120", lines + "feed 49 = -3\nlaw = -220\ncount 0 = 0\n");
        String whole = lines.substring(0, lines.lastIndexOf("feed"));
        run("a TEXT of 119 bytes", whole + "law = 1\nweight 0 = 9\n");
        run("a TEXT of 120 bytes", whole + "feed 49 = 120\nlaw = 1\nweight 0 = 9\n");
        run("a fault at the last of 120 bytes", whole + "feed 41 = 120\nlaw = -219\n");
    }

    private static void worth() {
        run("THE WEIGHT of a HEIGHT (held within 0 .. 9)", """
            text 9 = 1
            weight 0 = 9
            text 10 = 1
            weight 0 = 9
            text 9999 = 1
            weight 0 = 9
            text 8 = 1
            weight 0 = 8
            text 0 = 1
            weight 0 = 0
            text -1 = 1
            weight 0 = 0
            text 1 = 1
            weight 0 = 1
            text 2048*1024*1024 = 1
            weight 0 = 0
            text 2048*1024*1024-1 = 1
            weight 0 = 9
            """);
        run("without a text 1", """
            weight 0 = 1
            weight 1 = 1
            weight 20 = 1
            """);
        run("weight: HEIGHT (0 .. STEPS), BAD", """
            text 7 = 1
            weight -1 = -1
            weight 0 = 7
            weight 20 = 7
            weight 21 = -1
            weight MIN = -1
            weight MAX = -1
            mend 0 60
            weight 21 = 7
            weight 60 = 7
            weight 61 = -1
            mend 0 1
            weight 0 = 7
            weight 1 = 7
            weight 2 = -1
            """);
        run("NAMES: h the HEIGHT, n STEPS, j JARS, at their ends", """
            text h = 1
            weight 0 = 0
            weight 8 = 8
            weight 20 = 9
            text n = 1
            mend 0 1
            weight 0 = 1
            mend 0 6
            weight 6 = 6
            text j = 1
            weight 0 = 2
            mend 1 0
            weight 0 = 0
            mend 1 6
            weight 0 = 6
            text h=60 = 1
            mend 0 60
            weight 60 = 1
            weight 59 = 0
            """);
        run("The first LINE without a first E, or whose first E is not 0, counts; none: 0", """
            text 0?5 = 1
            weight 0 = 0
            text 0?5;0?6 = 1
            weight 0 = 0
            text 1?2;3 = 1
            weight 0 = 2
            text -1?2;3 = 1
            weight 0 = 2
            text 0?2;3 = 1
            weight 0 = 3
            text 0?2;3?4;5 = 1
            weight 0 = 4
            text 4;1?2 = 1
            weight 0 = 4
            text 0;7 = 1
            weight 0 = 0
            text 1?0;7 = 1
            weight 0 = 0
            text h=5?7;h>5?2 = 1
            weight 4 = 0
            weight 5 = 7
            weight 6 = 2
            """);
    }

    private static void values() {
        run("/ and % toward 0", """
            text 7/2 = 1
            weight 0 = 3
            text -7/2+9 = 1
            weight 0 = 6
            text 7/-2+9 = 1
            weight 0 = 6
            text -7/-2 = 1
            weight 0 = 3
            text 7%4 = 1
            weight 0 = 3
            text -7%4+9 = 1
            weight 0 = 6
            text 7%-4 = 1
            weight 0 = 3
            text -1/2+5 = 1
            weight 0 = 5
            """);
        run("by 0 they give 0", """
            text 5/0+3 = 1
            weight 0 = 3
            text 5%0+3 = 1
            weight 0 = 3
            text 0/0+4 = 1
            weight 0 = 4
            text 0%0+4 = 1
            weight 0 = 4
            text 9/h = 1
            weight 0 = 0
            weight 1 = 9
            weight 2 = 4
            text 9%h+1 = 1
            weight 0 = 1
            weight 4 = 2
            text (2048*1024*1024)/0+2 = 1
            weight 0 = 2
            """);
        run("Ints that wrap", """
            text 9999*9999*9999<0 = 1
            weight 0 = 1
            text 9999*9999*9999*9999=1089*1000*1000+432*1000+1 = 1
            weight 0 = 1
            text 2048*1024*1024<0 = 1
            weight 0 = 1
            text 2048*1024*1024-1>0 = 1
            weight 0 = 1
            text 2048*1024*1024-1+1<0 = 1
            weight 0 = 1
            text -(2048*1024*1024)<0 = 1
            weight 0 = 1
            text 2048*1024*1024/-1<0 = 1
            weight 0 = 1
            text 2048*1024*1024%-1+5 = 1
            weight 0 = 5
            text 4096*1024*1024+6 = 1
            weight 0 = 6
            """);
        run("| & < = > ! give 1, 0", """
            text 5|0 = 1
            weight 0 = 1
            text 0|5 = 1
            weight 0 = 1
            text 5|4 = 1
            weight 0 = 1
            text 0|0 = 1
            weight 0 = 0
            text 2&4 = 1
            weight 0 = 1
            text 4&0 = 1
            weight 0 = 0
            text 0&4 = 1
            weight 0 = 0
            text !5 = 1
            weight 0 = 0
            text !0 = 1
            weight 0 = 1
            text !!5 = 1
            weight 0 = 1
            text !-1 = 1
            weight 0 = 0
            text 3<3 = 1
            weight 0 = 0
            text 3=3 = 1
            weight 0 = 1
            text 3>3 = 1
            weight 0 = 0
            text 2<3 = 1
            weight 0 = 1
            text 3<2 = 1
            weight 0 = 0
            text 3>2 = 1
            weight 0 = 1
            text 2>3 = 1
            weight 0 = 0
            text 2=3 = 1
            weight 0 = 0
            """);
        run("| & < = > ! give 1, 0 and nothing else", """
            text 3+(0|0) = 1
            weight 0 = 3
            text 3+(0|7) = 1
            weight 0 = 4
            text 3+(0&7) = 1
            weight 0 = 3
            text 3+(7&0) = 1
            weight 0 = 3
            text 3+(2&5) = 1
            weight 0 = 4
            text 3+(3<3) = 1
            weight 0 = 3
            text 3+(1<3) = 1
            weight 0 = 4
            text 3+(2=3) = 1
            weight 0 = 3
            text 3+(4=4) = 1
            weight 0 = 4
            text 3+(2>3) = 1
            weight 0 = 3
            text 3+(9>3) = 1
            weight 0 = 4
            text 3+!9 = 1
            weight 0 = 3
            text 3+!0 = 1
            weight 0 = 4
            """);
        run("which sign binds closer, and from left to right", """
            text 2+3*2 = 1
            weight 0 = 8
            text (2+1)*2 = 1
            weight 0 = 6
            text 9-3-2 = 1
            weight 0 = 4
            text 8/2/2 = 1
            weight 0 = 2
            text 8/2*2 = 1
            weight 0 = 8
            text 7%4*2 = 1
            weight 0 = 6
            text 1|0&0 = 1
            weight 0 = 1
            text 1+1<1+2 = 1
            weight 0 = 1
            text 0&1<2 = 1
            weight 0 = 0
            text -2+5 = 1
            weight 0 = 3
            text !1+3 = 1
            weight 0 = 3
            text !0*3 = 1
            weight 0 = 3
            """);
    }

    private static void constants() {
        CHECK.due("BAD", TwoJars.BAD, -1);
        CHECK.due("NOT", TwoJars.NOT, -2);
        CHECK.due("FULL", TwoJars.FULL, -3);
        CHECK.due("STATE", TwoJars.STATE, -5);
        CHECK.due("VOID", TwoJars.VOID, -2000000000);
    }

    public static void main(String[] args) {
        constants();
        newObject();
        numbersOfTheTower();
        tape();
        places();
        open();
        faults();
        worth();
        values();
        CHECK.end();
    }
}
