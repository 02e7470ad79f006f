/** Promises 21 to 29: a run of its own for each sentence of the document that names a boundary case. */
public final class DeedBoundsTest {
    private static final Check CHECK = new Check("DeedBoundsTest");

    private static void run(String sentence, String lines) {
        Script.run(CHECK, sentence, lines);
    }

    private static void hide() {
        run("hide: STEPS", """
            hide 0 = 20
            mend 0 1
            hide 0 = 1
            mend 0 60
            hide 0 = 60
            hide MIN = 60
            hide MAX = 60
            """);
        run("HIDE: with JARS whole ones, the SPAN whole", """
            hide 0
            led 0 = 0
            led 1 = 0
            led 2 = 0
            led 3 = 20
            mend 0 60
            mend 1 6
            text h=0 = 1
            hide 0
            led 3 = 60
            drop 60 = 1
            drop 60 = 1
            drop 60 = 1
            drop 60 = 1
            drop 60 = 1
            drop 60 = 1
            drop 60 = -5
            led 1 = 6
            """);
        run("hidden anew: all from the beginning, but GUESSES", """
            hide 0
            guess 6 = 1
            hide 0
            drop 20 = 1
            drop 3 = 0
            led 0 = 2
            hide -1 = 20
            led 0 = 0
            led 1 = 0
            led 2 = 0
            led 3 = 20
            led 4 = 1
            led 5 = 1
            drop 8 = 1
            drop 8 = 1
            drop 7 = -5
            """);
        run("by a SEED: z is an int that wraps", """
            hide 0
            drop 6 = 0
            drop 7 = 1
            led 2 = 6
            led 3 = 6
            hide -1
            drop 7 = 0
            drop 8 = 1
            hide MAX
            drop 17 = 0
            drop 18 = 1
            hide MIN
            drop 17 = 0
            drop 18 = 1
            hide 7
            drop 1 = 0
            drop 2 = 1
            """);
        run("all WEIGHTS 0: each counts as 1", """
            text 0 = 1
            hide 0
            drop 6 = 0
            drop 7 = 1
            hide MAX
            drop 17 = 0
            drop 18 = 1
            """);
        run("a HEIGHT 0 .. STEPS, by WEIGHTS", """
            text h=0 = 1
            hide 3
            drop 1 = 1
            guess 0 = 1
            text h=20 = 1
            hide 3
            drop 20 = 0
            guess 20 = 1
            text 1<h&h<3 = 1
            hide 9
            drop 2 = 0
            drop 3 = 1
            guess 2 = 1
            """);
    }

    private static void drop() {
        run("drop: BAD: a step 1 .. STEPS", """
            hide 0
            drop 0 = -1
            drop -1 = -1
            drop 21 = -1
            drop MIN = -1
            drop MAX = -1
            led 0 = 0
            led 1 = 0
            led 2 = 0
            led 3 = 20
            drop 1 = 0
            drop 20 = 1
            led 0 = 2
            """);
        run("drop: STATE: nothing is hidden; BAD ahead of it", """
            drop 1 = -5
            drop 20 = -5
            drop 0 = -1
            drop 21 = -1
            hide 0
            guess 3 = 0
            drop 1 = -5
            drop 0 = -1
            """);
        run("drop: STATE: no JAR is whole; BAD ahead of it", """
            hide 0
            drop 20 = 1
            drop 19 = 1
            drop 18 = -5
            drop 1 = -5
            drop 0 = -1
            drop 21 = -1
            led 0 = 2
            led 1 = 2
            led 3 = 18
            mend 1 0
            hide 0
            drop 1 = -5
            led 0 = 0
            mend 1 1
            drop 1 = -5
            hide 0
            drop 1 = 0
            drop 20 = 1
            drop 1 = -5
            """);
        run("from a step no higher than h a jar stays whole, from a higher one it breaks", """
            text h=13 = 1
            mend 1 6
            hide 0
            drop 14 = 1
            drop 13 = 0
            drop 12 = 0
            drop 15 = 1
            drop 1 = 0
            drop 20 = 1
            led 1 = 3
            led 0 = 6
            """);
        run("the SPAN becomes less by it", """
            text h=13 = 1
            mend 1 6
            hide 0
            drop 10 = 0
            led 2 = 10
            led 3 = 20
            drop 16 = 1
            led 2 = 10
            led 3 = 15
            drop 13 = 0
            led 2 = 13
            drop 14 = 1
            led 3 = 13
            """);
        run("a DROP that tells nothing is a DROP", """
            text h=13 = 1
            mend 1 6
            hide 0
            drop 10 = 0
            drop 5 = 0
            led 2 = 10
            drop 10 = 0
            led 2 = 10
            drop 16 = 1
            drop 20 = 1
            led 3 = 15
            drop 16 = 1
            led 3 = 15
            led 0 = 6
            led 1 = 3
            """);
        run("SURE: one may drop still", """
            mend 0 1
            text h = 1
            hide 0
            drop 1 = 0
            led 2 = 1
            led 3 = 1
            drop 1 = 0
            led 0 = 2
            text 1-h = 1
            hide 0
            drop 1 = 1
            drop 1 = 1
            led 1 = 2
            led 3 = 0
            drop 1 = -5
            """);
        run("what is hidden stays as it was, with its own STEPS and JARS", """
            hide 0
            mend 0 60
            mend 1 0
            drop 21 = -1
            led 3 = 20
            drop 20 = 1
            mend 0 1
            drop 7 = 1
            drop 6 = -5
            guess 21 = -1
            guess 6 = 1
            mend 1 1
            hide 7 = 1
            times 4 undo
            of 0 = 20
            mend 1 6
            drop 2 = -1
            drop 1 = 0
            led 3 = 1
            guess 2 = -1
            guess 1 = 1
            """);
        run("a law that comes later hides nothing anew", """
            text h=13 = 1
            hide 0
            text h=2 = 1
            drop 13 = 0
            guess 13 = 1
            """);
    }

    private static void dropsRefused() {
        run("drops: a SHELF, n (1 .. 20); BAD", """
            lay 0 0 1 1 1
            hide 0
            drops -1 0 1 = -1
            drops 6 0 1 = -1
            drops MIN 0 1 = -1
            drops MAX 0 1 = -1
            drops 0 0 0 = -1
            drops 0 0 -1 = -1
            drops 0 0 21 = -1
            drops 0 0 MIN = -1
            drops 0 0 MAX = -1
            led 0 = 0
            drops 0 0 1 = 1
            drops 0 0 20 = 3
            led 0 = 4
            """);
        run("drops: -12 (no ROW of bytes; a SHELF that holds nothing is missing)", """
            body 0
            keep 1 0
            lay 2 1 1 1
            lay 3 2 1 1
            lay 4 3 1 1
            lay 5 4 1 1
            hide 0
            drops 1 0 1 = -12
            drops 2 0 1 = -12
            drops 3 0 1 = -12
            drops 4 0 1 = -12
            drops 5 0 1 = -12
            drops 0 0 1 = 0
            keep 5 -1
            drops 5 0 20 = 0
            led 0 = 0
            """);
        run("drops: STATE: nothing is hidden; BAD and -12 ahead of it", """
            lay 0 0 1 1
            lay 1 2 1 1
            drops 0 0 1 = -5
            drops 2 0 1 = -5
            drops 0 9 1 = -5
            drops 1 0 1 = -12
            drops 6 0 1 = -1
            drops 0 0 0 = -1
            drops 0 0 21 = -1
            drops 1 0 21 = -1
            hide 0
            drops 0 0 1 = 1
            guess 6 = 1
            drops 0 0 1 = -5
            """);
    }

    private static void drops() {
        run("from place i on, n of them", """
            lay 0 0 1 2 3 4 5
            hide 0
            drops 0 2 2 = 2
            led 2 = 4
            led 0 = 2
            drops 0 4 1 = 1
            led 2 = 5
            drops 0 0 1 = 1
            led 0 = 4
            led 2 = 5
            """);
        run("it ends where the row ends", """
            lay 0 0 1 2 3
            hide 0
            drops 0 3 1 = 0
            drops 0 4 1 = 0
            drops 0 60 20 = 0
            drops 0 MAX 20 = 0
            led 0 = 0
            drops 0 2 2 = 1
            led 2 = 3
            drops 0 0 20 = 3
            led 0 = 4
            row 0 0 0
            drops 0 0 1 = 0
            """);
        run("a place below 0 is not in the row", """
            lay 0 0 1 2 3
            hide 0
            drops 0 -1 2 = 0
            drops 0 MIN 20 = 0
            led 0 = 0
            """);
        run("n (1 .. 20) of a ROW of 60", """
            row 0 0 60
            put 0 0 1
            shift 0 0 0 1 1 = 1
            shift 0 0 0 2 2 = 2
            shift 0 0 0 4 4 = 4
            shift 0 0 0 8 8 = 8
            shift 0 0 0 16 16 = 16
            shift 0 0 0 32 28 = 28
            hide 0
            drops 0 0 20 = 20
            drops 0 40 20 = 20
            drops 0 41 20 = 19
            drops 0 59 20 = 1
            drops 0 60 20 = 0
            led 0 = 60
            led 2 = 1
            """);
        run("it ends where one is none: those ahead were dropped", """
            lay 0 0 1 2 0 3
            hide 0
            drops 0 0 4 = 2
            led 0 = 2
            led 2 = 2
            drops 0 2 2 = 0
            put 0 2 -1
            drops 0 0 4 = 2
            put 0 2 21
            drops 0 0 4 = 2
            put 0 2 127
            drops 0 0 4 = 2
            put 0 2 -128
            drops 0 0 4 = 2
            put 0 2 20
            drops 0 0 4 = 4
            led 0 = 14
            led 1 = 1
            """);
        run("one is none: by the STEPS of what is hidden", """
            lay 0 0 20 21
            hide 0
            mend 0 60
            drops 0 0 2 = 1
            hide 0
            drops 0 0 2 = 2
            lay 0 0 60 61
            mend 1 6
            hide 0
            drops 0 0 2 = 1
            """);
        run("it ends where no JAR is whole: those ahead were dropped", """
            lay 0 0 20 1 19 18 17
            hide 0
            drops 0 0 5 = 3
            led 0 = 3
            led 1 = 2
            led 3 = 18
            drops 0 3 1 = 0
            led 0 = 3
            mend 1 0
            hide 0
            drops 0 1 1 = 0
            """);
        run("it ends where the SPAN is SURE: those ahead were dropped", """
            text h=13 = 1
            mend 1 6
            lay 0 0 13 14 5 6
            hide 0
            drops 0 0 4 = 2
            led 0 = 2
            led 2 = 13
            led 3 = 13
            drops 0 2 1 = 0
            led 0 = 2
            drop 5 = 0
            led 0 = 3
            text h=20 = 1
            lay 0 0 20 19
            hide 0
            drops 0 0 2 = 1
            """);
    }

    private static void guess() {
        run("guess: a HEIGHT (0 .. STEPS); BAD", """
            hide 0
            guess -1 = -1
            guess 21 = -1
            guess MIN = -1
            guess MAX = -1
            led 0 = 0
            led 4 = 0
            led 5 = 0
            guess 0 = 0
            hide 0
            guess 20 = 0
            led 5 = 2
            led 4 = 0
            """);
        run("guess: STATE: nothing is hidden; BAD ahead of it", """
            guess 0 = -5
            guess 20 = -5
            guess -1 = -1
            guess 21 = -1
            led 5 = 0
            hide 0
            guess 6 = 1
            guess 6 = -5
            led 4 = 1
            led 5 = 1
            """);
        run("guess: 1, 0 (nothing is hidden then)", """
            hide 0
            guess 6 = 1
            led 0 = -5
            drop 1 = -5
            hide 0
            guess 5 = 0
            led 0 = -5
            drop 1 = -5
            hide 0
            guess 7 = 0
            led 4 = 1
            led 5 = 3
            image = 0
            """);
        run("a GUESS outside what is left is one", """
            hide 0
            drop 6 = 0
            guess 2 = 0
            led 5 = 1
            """);
    }

    private static void manyCalls() {
        run("An object is used for at most 512 calls: up to the last of them", """
            hide 0 = 20
            times 510 drop 1
            led 0 = 510
            """);
    }

    private static void led() {
        run("led: what 0 .. 5; BAD", """
            led -1 = -1
            led 6 = -1
            led MIN = -1
            led MAX = -1
            hide 0
            led -1 = -1
            led 6 = -1
            """);
        run("led: -5 all four: nothing is hidden", """
            led 0 = -5
            led 1 = -5
            led 2 = -5
            led 3 = -5
            led 4 = 0
            led 5 = 0
            hide 0
            led 0 = 0
            led 1 = 0
            led 2 = 0
            led 3 = 20
            guess 6
            led 0 = -5
            led 1 = -5
            led 2 = -5
            led 3 = -5
            led 4 = 1
            led 5 = 1
            """);
        run("what is refused is not led", """
            hide 0
            drop 0 = -1
            drop 21 = -1
            guess 21 = -1
            drops 0 0 21 = -1
            drops 0 0 5 = 0
            led 0 = 0
            led 5 = 0
            """);
    }

    private static void image() {
        run("image: DROPS since it was hidden (0: nothing is)", """
            image = 0
            hide 0
            image = 0
            drop 1
            image = 1
            drop 2
            drop 3
            image = 3
            guess 6
            image = 0
            """);
        run("back: STATE: there is none", """
            back = -5
            hide 0
            back = -5
            drop 1
            led 0 = 1
            image = 1
            back = 1
            """);
        run("an IMAGE of nothing hidden lays nothing hidden back", """
            image = 0
            hide 0
            drop 20
            back = 0
            led 0 = -5
            led 3 = -5
            drop 1 = -5
            guess 6 = -5
            """);
        run("laid back: likewise, and as often as one wants", """
            hide 0
            drop 20 = 1
            image = 1
            drop 6 = 0
            drop 7 = 1
            drop 1 = -5
            back = 1
            led 0 = 1
            led 1 = 1
            led 2 = 0
            led 3 = 19
            drop 7 = 1
            drop 1 = -5
            guess 6 = 1
            back = 1
            drop 6 = 0
            led 2 = 6
            guess 6 = 1
            back = 1
            led 3 = 19
            """);
        run("what LED tells: the GUESSES too", """
            hide 0
            guess 6 = 1
            hide 0
            image = 0
            guess 6 = 1
            led 4 = 2
            led 5 = 2
            back = 0
            led 4 = 1
            led 5 = 1
            """);
        run("what LED tells: right GUESSES and GUESSES each by itself", """
            hide 0
            guess 5 = 0
            hide 0
            guess 7 = 0
            hide 0
            guess 6 = 1
            image = 0
            hide 0
            guess 6 = 1
            back = 0
            led 4 = 1
            led 5 = 3
            """);
        run("a later IMAGE takes the place of the one there is", """
            hide 0
            drop 1
            image = 1
            drop 2
            image = 2
            drop 3
            back = 2
            led 2 = 2
            """);
        run("an IMAGE keeps what is hidden with its own STEPS and JARS, and no more than that", """
            hide 0
            image = 0
            mend 0 60
            mend 1 6
            hide 5
            back = 0
            of 0 = 60
            of 1 = 6
            count 1 = 2
            led 3 = 20
            drop 21 = -1
            drop 20 = 1
            drop 19 = 1
            drop 18 = -5
            guess 6 = 1
            """);
    }

    private static String changes(int from, int to) {
        StringBuilder lines = new StringBuilder();
        for (int v = from; v <= to; v++) {
            lines.append("mend 2 ").append(v).append(" = ").append(v - 1).append('\n');
        }
        return lines.toString();
    }

    /** Lines that undo and redo so many changes of changes(), asking after each what the number is. */
    private static String backAndAgain(int from, int kept) {
        StringBuilder lines = new StringBuilder();
        for (int i = 1; i <= kept; i++) {
            lines.append("undo = ").append(kept - i).append("\nof 2 = ").append(from - i).append('\n');
        }
        lines.append("undo = -5\n");
        for (int i = kept - 1; i >= 0; i--) {
            lines.append("redo = ").append(i).append("\nof 2 = ").append(from - i).append('\n');
        }
        return lines.append("redo = -5\ncount 1 = ").append(kept).append('\n').toString();
    }

    private static void undo() {
        run("undo: STATE: none", """
            undo = -5
            mend 1 3
            undo = 0
            undo = -5
            of 1 = 2
            mend 1 7 = -1
            undo = -5
            """);
        run("redo: STATE: none", """
            redo = -5
            mend 1 3
            redo = -5
            undo = 0
            redo = 0
            redo = -5
            of 1 = 3
            """);
        run("how many may still be", """
            mend 0 30
            mend 1 3
            mend 2 9
            mend 3 99
            count 1 = 4
            undo = 3
            of 3 = 10
            undo = 2
            of 2 = 1
            undo = 1
            of 1 = 2
            undo = 0
            of 0 = 20
            redo = 3
            of 0 = 30
            redo = 2
            of 1 = 3
            redo = 1
            of 2 = 9
            redo = 0
            of 3 = 99
            count 1 = 4
            """);
        run("the latest first", """
            mend 0 30
            mend 0 40
            mend 0 50
            undo = 2
            of 0 = 40
            undo = 1
            of 0 = 30
            redo = 1
            of 0 = 40
            undo = 1
            of 0 = 30
            undo = 0
            of 0 = 20
            """);
        run("DONE AGAIN, as long as no other came behind", """
            mend 0 30
            mend 1 3
            undo = 1
            mend 2 5 = 1
            redo = -5
            of 1 = 2
            undo = 1
            redo = 0
            of 2 = 5
            undo
            undo = 0
            mend 0 40
            redo = -5
            count 1 = 1
            """);
        run("a mend that is refused, or to the same, is none that came behind", """
            mend 0 30
            mend 0 40
            undo = 1
            mend 0 61 = -1
            mend 5 1 = -1
            mend 0 30 = 30
            mend 3 10 = 10
            redo = 0
            of 0 = 40
            """);
        run("neither law, hide, image nor back is a CHANGE", """
            mend 0 30
            undo = 0
            text 5 = 1
            hide 0
            image
            back
            guess 0
            body 0
            row 0 0 5
            count 1 = 0
            undo = -5
            redo = 0
            of 0 = 30
            """);
    }

    private static void fortyChanges() {
        run("39 changes: all are kept", changes(2, 40) + """
            count 1 = 39
            undo = 38
            times 37 undo
            undo = 0
            of 2 = 1
            undo = -5
            """);
        run("40 at most are kept: 40", changes(2, 41) + """
            count 1 = 40
            undo = 39
            times 38 undo
            undo = 0
            of 2 = 1
            undo = -5
            redo = 39
            times 38 redo
            redo = 0
            of 2 = 41
            """);
        run("40 at most are kept: 41, the oldest is not", changes(2, 42) + """
            count 1 = 40
            undo = 39
            times 38 undo
            undo = 0
            of 2 = 2
            undo = -5
            of 2 = 2
            redo = 39
            of 2 = 3
            times 38 redo
            redo = 0
            redo = -5
            of 2 = 42
            """);
        run("40 at most are kept: each of them as it was, one by one", changes(2, 42) + backAndAgain(42, 40));
        run("40 at most are kept: 60 changes, the oldest twenty are not", changes(2, 61) + backAndAgain(61, 40));
        run("40 at most are kept: the oldest was of another number", "mend 0 30\nmend 1 6\n" + changes(2, 40) + """
            count 1 = 40
            times 40 undo
            undo = -5
            of 0 = 30
            of 1 = 2
            """);
        run("40 are kept again behind UNDONE and others", changes(2, 41) + """
            times 10 undo
            count 1 = 30
            of 2 = 31
            """ + changes(32, 41) + """
            count 1 = 40
            redo = -5
            mend 3 50 = 10
            count 1 = 40
            times 40 undo
            undo = -5
            of 2 = 2
            of 3 = 10
            """);
    }

    public static void main(String[] args) {
        hide();
        drop();
        dropsRefused();
        drops();
        guess();
        led();
        image();
        undo();
        fortyChanges();
        manyCalls();
        CHECK.end();
    }
}
