/** Promises 30 to 39: a run of its own for each sentence of the document that names a boundary case. */
public final class ShelvesBoundsTest {
    private static final Check CHECK = new Check("ShelvesBoundsTest");

    private static void run(String sentence, String lines) {
        Script.run(CHECK, sentence, lines);
    }

    private static void body() {
        run("body: a KIND (0 .. 7); BAD", """
            body -1 = -1
            body 8 = -1
            body MIN = -1
            body MAX = -1
            count 2 = 0
            body 7 = 0
            body 0 = 1
            count 2 = 2
            """);
        run("BODIES 0 .. 49; FULL", """
            times 48 body 3
            body 4 = 48
            body 0 = 49
            count 2 = 50
            body 0 = -3
            body 7 = -3
            count 2 = 50
            act 49 0 0 = 49
            act 50 0 0 = 0
            count 3 = 0
            keep 0 49 = 1
            keep 0 50 = -1
            taken 0 0 = 0
            """);
        run("body: BAD ahead of FULL", """
            times 50 body 0
            body 8 = -1
            body -1 = -1
            body 0 = -3
            """);
    }

    private static void act() {
        run("act: 0, and no TRACE then: no such BODY", """
            act 0 0 5 = 0
            count 3 = 0
            trace 0 = -1
            body 0
            act 0 3 5 = 9
            count 3 = 4
            act 1 0 5 = 0
            count 3 = 0
            trace 0 = -1
            act 0 3 5 = 9
            act -1 0 5 = 0
            count 3 = 0
            act 0 3 5 = 9
            act MIN 0 5 = 0
            trace 0 = -1
            act 0 3 5 = 9
            act MAX 0 5 = 0
            trace 3 = -1
            act 0 3 5 = 9
            act 50 0 5 = 0
            count 3 = 0
            """);
        run("act: 0, and no TRACE then: no such ACT (0 .. 3)", """
            body 0
            act 0 0 5 = 5
            act 0 -1 5 = 0
            trace 0 = -1
            act 0 3 5 = 9
            count 3 = 4
            act 0 4 5 = 0
            count 3 = 0
            trace 0 = -1
            act 0 2 5 = 5
            act 0 MIN 5 = 0
            count 3 = 0
            act 0 1 5 = 10
            act 0 MAX 5 = 0
            count 3 = 0
            """);
        run("x (an int that wraps)", """
            body 0
            body 0
            body 1
            body 2
            body 3
            body 4
            body 5
            body 6
            body 7
            act 1 0 MAX = MIN
            act 0 1 1073741824 = MIN
            act 0 1 MAX = -2
            act 0 1 MIN = 0
            act 0 2 MIN = MIN
            act 1 2 MIN = -2147483647
            act 0 3 MIN = -1
            act 2 0 MAX = -2147483644
            act 3 1 1073741821 = MIN
            act 4 2 MAX = 2147483633
            act 4 1 MAX = -8
            act 5 3 MAX = 15
            act 6 3 MAX = -24
            act 7 0 MAX = 12
            act 8 0 MAX = 13
            act 8 1 MAX = 36
            """);
        run("n its number", """
            times 49 body 0
            body 6 = 49
            act 0 0 0 = 0
            act 48 0 0 = 48
            act 48 2 0 = 48
            act 49 0 0 = 98
            """);
    }

    private static void trace() {
        run("trace: BAD: no such i", """
            trace 0 = -1
            trace -1 = -1
            body 5
            act 0 3 5 = -12
            count 3 = 10
            trace -1 = -1
            trace 0 = 61
            trace 9 = 1
            trace 10 = -1
            trace 23 = -1
            trace 24 = -1
            trace MIN = -1
            trace MAX = -1
            """);
        run("as they began, in the latest act()", """
            body 5
            body 0
            act 0 3 5
            trace 0 = 61
            trace 1 = 2
            trace 2 = 41
            trace 3 = 30
            trace 4 = 10
            trace 5 = 1
            trace 6 = 60
            trace 7 = 40
            trace 8 = 11
            trace 9 = 1
            act 1 0 5 = 6
            count 3 = 1
            trace 0 = 1
            trace 1 = -1
            body 8 = -1
            trace 0 = 1
            count 3 = 1
            """);
        run("drops(..) and so on: the body of its own KIND, or of the next KIND above; super", """
            body 7
            act 0 3 5 = 19
            count 3 = 8
            trace 0 = 2
            trace 1 = 80
            trace 2 = 10
            trace 3 = 81
            trace 4 = 70
            trace 5 = 1
            trace 6 = 11
            trace 7 = 11
            trace 8 = -1
            act 0 0 5 = 9
            count 3 = 3
            trace 0 = 81
            trace 2 = 1
            """);
    }

    private static void keep() {
        run("keep: SHELVES 0 .. 5; BAD", """
            body 0
            keep -1 0 = -1
            keep 6 0 = -1
            keep MIN 0 = -1
            keep MAX 0 = -1
            keep 6 -1 = -1
            keep 0 0 = 1
            keep 5 0 = 1
            taken 0 0 = 0
            taken 5 0 = 0
            taken 4 0 = -11
            """);
        run("keep: nothing (body -1), or a BODY; BAD", """
            keep 0 -1 = 1
            keep 0 0 = -1
            body 0
            keep 0 0 = 1
            keep 0 1 = -1
            keep 0 -2 = -1
            keep 0 MIN = -1
            keep 0 MAX = -1
            taken 0 0 = 0
            keep 0 -1 = 1
            taken 0 0 = -11
            keep 0 -1 = 1
            """);
        run("a refused keep leaves what the SHELF holds", """
            lay 0 0 7
            keep 0 0 = -1
            keep 0 -2 = -1
            element 0 0 = 7
            """);
        run("a SHELF holds one thing", """
            body 3
            lay 0 2 7 8
            keep 0 0 = 1
            element 0 0 = LMIN
            put 0 0 1 = -12
            taken 0 3 = 3
            row 0 2 2 = 1
            taken 0 3 = -12
            element 0 0 = 0
            element 0 1 = 0
            keep 0 -1
            element 0 0 = LMIN
            put 0 0 1 = -11
            """);
        run("each hold nothing (at first)", """
            taken 0 0 = -11
            taken 1 0 = -11
            taken 2 0 = -11
            taken 3 0 = -11
            taken 4 0 = -11
            taken 5 0 = -11
            """);
    }

    private static void row() {
        run("row: SHELVES 0 .. 5, sorts 0 .. 4; BAD", """
            row -1 0 1 = -1
            row 6 0 1 = -1
            row MIN 0 1 = -1
            row MAX 0 1 = -1
            row 0 -1 1 = -1
            row 0 5 1 = -1
            row 0 MIN 1 = -1
            row 0 MAX 1 = -1
            put 0 0 1 = -11
            row 0 0 1 = 1
            row 5 4 1 = 1
            put 5 0 1 = 1
            """);
        run("row: n above 60: BAD; a size below 0: -14", """
            row 0 0 61 = -1
            row 0 0 MAX = -1
            row 0 0 -1 = -14
            row 0 0 MIN = -14
            put 0 0 1 = -11
            row 0 0 0 = 1
            put 0 0 1 = -13
            row 0 0 60 = 1
            put 0 59 1 = 1
            put 0 60 1 = -13
            """);
        run("row: BAD ahead of -14", """
            row 6 0 -1 = -1
            row -1 0 -1 = -1
            row 0 5 -1 = -1
            row 0 -1 -1 = -1
            row 0 -1 MIN = -1
            """);
        run("a refused row leaves what the SHELF holds", """
            lay 0 1 7 8
            row 0 1 61 = -1
            row 0 1 -1 = -14
            row 0 5 1 = -1
            element 0 0 = 7
            element 0 1 = 8
            element 0 2 = LMIN
            """);
        run("0 at first (false)", """
            row 0 0 60
            row 1 1 60
            row 2 2 60
            row 3 3 60
            row 4 4 60
            element 0 0 = 0
            element 0 59 = 0
            element 1 59 = 0
            element 2 59 = 0
            element 3 59 = 0
            element 4 0 = 0
            element 4 59 = 0
            put 0 59 9
            row 0 0 60 = 1
            element 0 59 = 0
            put 0 59 9
            row 0 0 5
            row 0 0 60
            element 0 59 = 0
            """);
    }

    private static void put() {
        run("put: BAD, -11, -12, -13, the one named first", """
            body 0
            keep 1 0
            lay 2 2 7 8
            put -1 0 1 = -1
            put 6 0 1 = -1
            put MIN 0 1 = -1
            put MAX 0 1 = -1
            put 6 -1 1 = -1
            put 0 0 1 = -11
            put 0 -1 1 = -11
            put 0 61 1 = -11
            put 1 0 1 = -12
            put 1 -1 1 = -12
            put 1 61 1 = -12
            put 2 -1 1 = -13
            put 2 2 1 = -13
            put 2 60 1 = -13
            put 2 MIN 1 = -13
            put 2 MAX 1 = -13
            put 2 0 1 = 1
            put 2 1 5 = 1
            element 2 0 = 1
            element 2 1 = 5
            """);
        run("a ROW of 0 elements has no place", """
            row 0 3 0
            put 0 0 1 = -13
            put 0 -1 1 = -13
            element 0 0 = LMIN
            """);
        run("what is put in keeps its lowest bits: bytes", """
            row 0 0 8
            put 0 0 127
            put 0 1 128
            put 0 2 255
            put 0 3 256
            put 0 4 -128
            put 0 5 -129
            put 0 6 LMAX
            put 0 7 LMIN
            element 0 0 = 127
            element 0 1 = -128
            element 0 2 = -1
            element 0 3 = 0
            element 0 4 = -128
            element 0 5 = 127
            element 0 6 = -1
            element 0 7 = 0
            """);
        run("what is put in keeps its lowest bits: shorts", """
            row 0 1 6
            put 0 0 32767
            put 0 1 32768
            put 0 2 65535
            put 0 3 65536
            put 0 4 -32769
            put 0 5 LMAX
            element 0 0 = 32767
            element 0 1 = -32768
            element 0 2 = -1
            element 0 3 = 0
            element 0 4 = 32767
            element 0 5 = -1
            """);
        run("what is put in keeps its lowest bits: ints", """
            row 0 2 6
            put 0 0 2147483647
            put 0 1 2147483648
            put 0 2 4294967295
            put 0 3 4294967296
            put 0 4 -2147483649
            put 0 5 LMIN
            element 0 0 = 2147483647
            element 0 1 = -2147483648
            element 0 2 = -1
            element 0 3 = 0
            element 0 4 = 2147483647
            element 0 5 = 0
            """);
        run("what is put in keeps its lowest bits: longs", """
            row 0 3 4
            put 0 0 LMAX
            put 0 1 LMIN = 1
            put 0 2 4294967296
            put 0 3 -1
            element 0 0 = LMAX
            element 0 1 = LMIN
            element 0 2 = 4294967296
            element 0 3 = -1
            """);
        run("a boolean: whether it is not 0; 1 or 0", """
            row 0 4 6
            put 0 0 1
            put 0 1 2
            put 0 2 256
            put 0 3 4294967296
            put 0 4 -1
            put 0 5 LMIN
            element 0 0 = 1
            element 0 1 = 1
            element 0 2 = 1
            element 0 3 = 1
            element 0 4 = 1
            element 0 5 = 1
            put 0 0 0 = 1
            element 0 0 = 0
            """);
    }

    private static void element() {
        run("element: Long.MIN_VALUE: BAD, -11 to -13", """
            body 0
            keep 1 0
            lay 2 2 7 8
            element -1 0 = LMIN
            element 6 0 = LMIN
            element MIN 0 = LMIN
            element MAX 0 = LMIN
            element 0 0 = LMIN
            element 1 0 = LMIN
            element 2 -1 = LMIN
            element 2 2 = LMIN
            element 2 60 = LMIN
            element 2 MIN = LMIN
            element 2 MAX = LMIN
            element 2 0 = 7
            element 2 1 = 8
            """);
        run("a shorter ROW in the place of a longer one has its own places alone", """
            lay 0 2 1 2 3 4 5
            row 0 2 2
            put 0 2 9 = -13
            element 0 2 = LMIN
            shift 0 0 0 0 3 = -13
            """);
    }

    private static void shift() {
        run("shift: BAD: no such SHELF, either", """
            lay 0 0 1 2 3
            shift -1 0 0 0 1 = -1
            shift 6 0 0 0 1 = -1
            shift 0 0 -1 0 1 = -1
            shift 0 0 6 0 1 = -1
            shift MIN 0 MAX 0 1 = -1
            shift 6 0 1 0 1 = -1
            shift 1 0 6 0 1 = -1
            shift 0 -1 6 0 1 = -1
            """);
        run("shift: -11 (either), ahead of -12 and -13", """
            lay 0 0 1 2 3
            body 0
            keep 2 0
            shift 0 0 1 0 1 = -11
            shift 1 0 0 0 1 = -11
            shift 1 0 1 0 1 = -11
            shift 2 0 1 0 1 = -11
            shift 1 0 2 0 1 = -11
            shift 0 9 1 0 1 = -11
            shift 1 0 0 0 -1 = -11
            """);
        run("shift: -12 (no ROWS, or of unlike sorts), ahead of -13", """
            lay 0 0 1 2 3
            lay 1 1 1 2 3
            body 0
            keep 2 0
            lay 3 2 1 2 3
            lay 4 3 1 2 3
            lay 5 4 1 2 3
            shift 0 0 2 0 1 = -12
            shift 2 0 0 0 1 = -12
            shift 2 0 2 0 1 = -12
            shift 0 0 1 0 1 = -12
            shift 1 0 0 0 1 = -12
            shift 1 0 3 0 1 = -12
            shift 3 0 4 0 1 = -12
            shift 4 0 3 0 1 = -12
            shift 0 0 5 0 1 = -12
            shift 5 0 0 0 1 = -12
            shift 0 9 1 0 1 = -12
            shift 0 0 2 0 -1 = -12
            shift 0 0 1 0 0 = -12
            """);
        run("shift: -13 (n below 0, too)", """
            lay 0 0 1 2 3
            lay 1 0 4 5
            shift 0 0 1 0 -1 = -13
            shift 0 0 1 0 MIN = -13
            shift 0 -1 1 0 1 = -13
            shift 0 0 1 -1 1 = -13
            shift 0 -1 1 -1 0 = -13
            shift 0 3 1 0 1 = -13
            shift 0 2 1 0 2 = -13
            shift 0 0 1 2 1 = -13
            shift 0 0 1 1 2 = -13
            shift 0 0 1 0 3 = -13
            shift 0 4 1 0 0 = -13
            shift 0 0 1 3 0 = -13
            shift 0 MAX 1 0 1 = -13
            shift 0 0 1 MAX 1 = -13
            shift 0 1 1 1 MAX = -13
            shift 0 MAX 1 MAX MAX = -13
            shift 0 MIN 1 0 1 = -13
            shift 0 0 1 MIN 1 = -13
            shift 0 MIN 1 MIN MIN = -13
            element 1 0 = 4
            element 1 1 = 5
            """);
        run("shift: none of them, up to the end", """
            lay 0 0 1 2 3
            row 1 0 0
            shift 0 0 0 0 0 = 0
            shift 0 3 0 3 0 = 0
            shift 1 0 1 0 0 = 0
            shift 0 3 1 0 0 = 0
            shift 1 0 0 3 0 = 0
            shift 1 0 0 0 1 = -13
            element 0 0 = 1
            element 0 2 = 3
            """);
        run("shift: n of them, up to the end", """
            lay 0 1 1 2 3
            lay 1 1 4 5 6
            shift 0 2 1 2 1 = 1
            element 1 2 = 3
            element 1 1 = 5
            shift 0 1 1 0 2 = 2
            element 1 0 = 2
            element 1 1 = 3
            element 1 2 = 3
            shift 0 0 1 0 3 = 3
            element 1 0 = 1
            element 1 2 = 3
            row 2 4 60
            row 3 4 60
            put 2 0 1
            put 2 59 1
            shift 2 0 3 0 60 = 60
            element 3 0 = 1
            element 3 59 = 1
            shift 2 1 3 0 60 = -13
            """);
        run("(or the same), as they all were before", """
            lay 0 2 1 2 3 4 5
            shift 0 0 0 1 4 = 4
            element 0 0 = 1
            element 0 1 = 1
            element 0 2 = 2
            element 0 3 = 3
            element 0 4 = 4
            lay 0 2 1 2 3 4 5
            shift 0 1 0 0 4 = 4
            element 0 0 = 2
            element 0 1 = 3
            element 0 2 = 4
            element 0 3 = 5
            element 0 4 = 5
            shift 0 0 0 0 5 = 5
            element 0 0 = 2
            element 0 4 = 5
            """);
    }

    private static void taken() {
        run("taken: SHELVES 0 .. 5, KIND 0 .. 7; BAD ahead of -11, -12", """
            body 0
            keep 0 0
            lay 1 0 1
            taken -1 0 = -1
            taken 6 0 = -1
            taken MIN 0 = -1
            taken MAX 0 = -1
            taken 0 -1 = -1
            taken 0 8 = -1
            taken 0 MIN = -1
            taken 0 MAX = -1
            taken 1 8 = -1
            taken 2 8 = -1
            taken 2 -1 = -1
            """);
        run("taken: -11, -12", """
            body 0
            keep 0 0
            row 1 0 0
            taken 2 0 = -11
            taken 2 7 = -11
            taken 1 0 = -12
            taken 1 7 = -12
            taken 0 0 = 0
            taken 0 1 = -12
            taken 0 7 = -12
            """);
        kindsTaken();
    }

    /** For each KIND those that it is, or stands under; all others are -12. */
    private static void kindsTaken() {
        int[][] over = {{0}, {1, 0}, {2, 0}, {3, 2, 0}, {4, 1, 0}, {5, 3, 2, 0}, {6, 0}, {7, 6, 0}};
        StringBuilder lines = new StringBuilder();
        for (int kind = 0; kind < 8; kind++) {
            lines.append("body ").append(kind).append("\nkeep 3 ").append(kind).append(" = 1\n");
            for (int k = 0; k < 8; k++) {
                boolean is = false;
                for (int above : over[kind]) {
                    is |= above == k;
                }
                lines.append("taken 3 ").append(k).append(" = ").append(is ? kind : -12).append('\n');
            }
        }
        run("taken for a BODY of KIND k, or under it: its KIND", lines.toString());
    }

    private static void count() {
        run("count: what 0 .. 3; BAD", """
            count -1 = -1
            count 4 = -1
            count MIN = -1
            count MAX = -1
            """);
        run("count: bytes on THE TAPE", """
            count 0 = 0
            feed 49
            count 0 = 1
            feed 300
            count 0 = 1
            times 119 feed 49
            count 0 = 120
            feed 49
            count 0 = 120
            law
            count 0 = 0
            """);
        run("count: changes that may be UNDONE", """
            count 1 = 0
            mend 1 3
            mend 1 4
            count 1 = 2
            mend 1 4
            mend 1 7
            count 1 = 2
            undo
            count 1 = 1
            redo
            count 1 = 2
            undo
            undo
            undo
            count 1 = 0
            """);
        run("count: BODIES", """
            count 2 = 0
            body 0
            body 8
            count 2 = 1
            times 60 body 7
            count 2 = 50
            keep 0 -1
            count 2 = 50
            """);
        run("count: bodies that ran in the latest act()", """
            count 3 = 0
            body 4
            act 0 3 5
            count 3 = 6
            act 0 0 5
            count 3 = 2
            act 0 9 5
            count 3 = 0
            """);
    }

    public static void main(String[] args) {
        body();
        act();
        trace();
        keep();
        row();
        put();
        element();
        shift();
        taken();
        count();
        CHECK.end();
    }
}
