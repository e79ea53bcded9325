/**
 * One method a promise of the document: what is ordinary, the edges it names, what is refused. The answers that are
 * due were worked out by hand from the document's words.
 */
public final class PromiseTest extends Due {
    public static void main(String[] args) {
        aNewObject();
        thing();
        rope();
        damp();
        type();
        clear();
        read();
        readFaults();
        pull();
        kinds();
        both();
        would();
        open();
        moves();
        undo();
        errand();
        drop();
        order();
        code();
        who();
        heard();
        cuts();
        rule();
        free();
        slack();
        giveUp();
        share();
        part();
        image();
        from();
        status();
        count();
        digest();
        end("all promises hold");
    }

    private static void aNewObject() {
        says("promise 1");
        OneBell x = new OneBell();
        for (int what = 0; what <= 6; what++) due("count(" + what + ")", x.count(what), 0);
        due("open", x.open(), 0);
        due("part(0)", x.part(0), 0);
        due("part(1)", x.part(1), 1);
        due("from(0)", x.from(0), OneBell.NO);
        due("from(1)", x.from(1), OneBell.NO);
        statusIs(x, 0, 2, 0);
    }

    private static void thing() {
        says("promise 2");
        OneBell x = new OneBell();
        int[][] wrongOnes = {{-1, 0, 1, 0}, {5, 0, 1, 0}, {0, -1, 1, 0}, {0, 10, 1, 0}, {0, 0, 0, 0}, {0, 0, 10, 0},
            {0, 0, 1, -1}, {0, 0, 1, 10}, {LEAST, 0, 1, 0}, {MOST, 0, 1, 0}, {0, LEAST, 1, 0}, {0, MOST, 1, 0},
            {0, 0, LEAST, 0}, {0, 0, MOST, 0}, {0, 0, 1, LEAST}, {0, 0, 1, MOST}};
        for (int[] w : wrongOnes) due("a wrong thing", x.thing(w[0], w[1], w[2], w[3]), OneBell.BAD);
        due("count(0)", x.count(0), 0);
        due("thing 0", x.thing(DOOR, 0, 1, 0), 0);
        due("thing 1", x.thing(SLUICE, 9, 9, 9), 1);
        due("thing 2", x.thing(LATCH, 0, 1, 0), 2);
        due("thing 3", x.thing(LID, 0, 1, 0), 3);
        due("thing 4", x.thing(WHEEL, 0, 1, 0), 4);
        due("a 6th", x.thing(DOOR, 0, 1, 0), OneBell.FULL);
        due("a wrong 6th", x.thing(5, 0, 1, 0), OneBell.BAD);
        due("count(0)", x.count(0), 5);
        due("count(1)", x.count(1), 5);
        statusIs(x, 17, 0, 1);
    }

    private static void rope() {
        says("promise 3");
        OneBell x = village("thing 0 2 3 1;thing 0 1 2 1;");
        due("one that is whole", x.rope(0, true), OneBell.NO);
        due("pull ahead", x.would(0, 9), 3);
        due("cut", x.rope(0, false), 1);
        due("cut again", x.rope(0, false), OneBell.NO);
        due("count(1)", x.count(1), 1);
        due("pulled on a cut rope it moves alone", x.would(0, 9), 1);
        due("cut off it does not move", x.would(1, 9), 2);
        due("whole again", x.rope(0, true), 1);
        due("count(1)", x.count(1), 2);
        due("pull as ahead", x.would(0, 9), 3);
        for (int t : new int[] {-1, 2, LEAST, MOST}) due("no such thing", x.rope(t, false), OneBell.BAD);
        statusIs(x, 4, 2, 0);
    }

    private static void damp() {
        says("promise 4");
        OneBell x = village("thing 0 5 3 1;thing 0 9 3 1;");
        due("travel 10, 9 off", x.moves(0, 15, 1), 1);
        due("first damp", x.damp(4), 0);
        due("travel 14, 5 off", x.moves(0, 15, 1), 9);
        due("damp to 9", x.damp(9), 4);
        due("no slack below 0", x.moves(0, 15, 1), 15);
        due("wrong", x.damp(10), OneBell.BAD);
        due("wrong", x.damp(-1), OneBell.BAD);
        due("wrong", x.damp(LEAST), OneBell.BAD);
        due("back", x.damp(0), 9);
        due("as at first", x.moves(0, 15, 1), 1);
        statusIs(x, 3, 0, 0);
    }

    private static void type() {
        says("promise 5");
        OneBell x = new OneBell();
        for (int n : new int[] {0, 9, -1, LEAST, MOST}) due("wrong n", x.type(65, n), OneBell.BAD);
        // The highest of the lowest five bytes first: "damp " and then "7;", the bytes above left out.
        due("5 bytes", x.type(0x7878786461_6d7020L, 5), 5);
        due("2 bytes", x.type(0x7878_373bL, 2), 7);
        due("read", x.read(), 1);
        due("count(6)", x.count(6), 7);
        for (int i = 2; i <= 25; i++) x.type(-1L, 8);
        due("count(5)", x.count(5), 199);
        due("2 more than there is room for", x.type(0, 2), OneBell.FULL);
        due("count(5)", x.count(5), 199);
        due("the 200th", x.type(0, 1), 200);
        due("a 201st", x.type(0, 1), OneBell.FULL);
        due("wrong is told ahead of full", x.type(0, 9), OneBell.BAD);
        statusIs(x, 6, 0, 2);
    }

    private static void clear() {
        says("promise 6");
        OneBell x = new OneBell();
        due("an empty one", x.clear(), 0);
        typeText(x, "damp 3;x");
        due("of 8", x.clear(), 8);
        due("count(5)", x.count(5), 0);
        due("again", x.clear(), 0);
        typeText(x, "damp 4;");
        due("nothing of the old text is left", x.read(), 1);
        due("count(6)", x.count(6), 4);
    }

    private static void read() {
        says("promise 7");
        due("an empty text", readOf(""), 0);
        due("blanks alone", readOf("   "), 0);
        due("blanks between", readOf("  thing  0 0   1 0 ; cut 0 ;  damp 9;"), 3);
        due("no blanks where none are needed", readOf("thing0 0 1 0;cut0;damp9;errand0 20;rule0 20 1;"), 5);
        due("two figures", readOf("thing 04 09 01 00;errand 00 20;rule 00 05 01;"), 3);
        due("damp twice", readOf("damp 1;damp 0;"), 2);
        due("all that there may be", readOf("thing 0 0 1 0;thing 1 0 1 0;thing 2 0 1 0;thing 3 0 1 0;thing 4 0 1 0;"
            + "errand 0 0;errand 1 0;errand 2 0;errand 3 0;errand 4 0;rule 0 0 31;rule 1 0 0;rule 2 0 0;rule 3 0 0;"), 14);
        takesThePlaceOfAll();
        aFaultLeavesAll();
    }

    private static void takesThePlaceOfAll() {
        OneBell x = village("thing 0 0 1 9;thing 1 0 1 4;damp 3;errand 0 1;rule 0 1 1;cut 1;");
        due("cut", x.count(1), 1);
        due("damp", x.count(6), 3);
        x.share(0);
        x.image(0);
        x.pull(0, 5);
        x.pull(9, 9);
        typeText(x, "thing 3 1 2 3;errand 0 7;");
        due("read", x.read(), 2);
        long[] counts = {1, 1, 1, 0, 0, 25, 0};
        for (int what = 0; what <= 6; what++) due("count(" + what + ")", x.count(what), counts[what]);
        due("nothing is open", x.open(), 0);
        due("nothing may be undone", x.undo(), OneBell.NO);
        due("the fraction stays", x.part(0), 2);
        due("status stays", x.status(0), 1);
        due("images stay", x.from(0), 1);
        due("count(0)", x.count(0), 2);
        x.clear();
        due("an empty one", x.read(), 0);
        due("count(0)", x.count(0), 0);
        due("count(1)", x.count(1), 0);
        due("count(2)", x.count(2), 0);
        due("count(3)", x.count(3), 0);
        due("count(6)", x.count(6), 0);
    }

    private static void aFaultLeavesAll() {
        OneBell x = village("thing 0 0 1 9;damp 3;errand 0 1;");
        x.pull(0, 5);
        typeText(x, "thing 1 1 1 1;damp 4;thing 1 1 1 1;x");
        long ahead = x.digest();
        due("a fault at 35", x.read(), -45);
        due("digest", x.digest(), ahead);
        due("open", x.open(), 1);
        statusIs(x, 0, 0, 0);
    }

    private static void readFaults() {
        says("promise 7");
        String one = "thing 0 0 1 0;";
        String five = one + one + one + one + one;
        Object[][] faults = {
            {"x", 0}, {"  things 0 0 1 0;", 2}, {"thin", 0}, {"Thing 0 0 1 0;", 0}, {";", 0}, {"7;", 0},
            {"damp 1;;", 7}, {"damp 1 2;", 7}, {"damp;", 4}, {"damp cut;", 5}, {"damp 1 damp 2;", 7},
            {"damp -1;", 5}, {"damp 1,", 6}, {"damp\t1;", 4}, {"damp 1;" + (char) 200, 7}, {"damp 1;" + (char) 0, 7},
            {"thing", 5}, {"thing ", 6}, {"thing 0 0 1 0", 13}, {"thing 0 0 1 0  ", 15}, {"damp 1; cut", 11},
            {"thing 5 0 1 0;", 6}, {"thing 0 10 1 0;", 8}, {"thing 0 0 0 0;", 10}, {"thing 0 0 10 0;", 10},
            {"thing 0 0 1 10;", 12}, {"thing 000 0 1 0;", 6}, {"thing 0 0 1 0000;", 12}, {"damp 10;", 5},
            {"damp 123", 5}, {"damp 12", 5},
            {"cut 0;", 4}, {one + "cut 1;", 18}, {one + "cut 0;cut 0;", 24}, {one + "cut 0 cut", 20},
            {"errand 0 1;", 7}, {one + "errand 1 1;", 21}, {one + "errand 0 21;", 23}, {one + "errand 0;", 22},
            {"rule 0 1 0;", 5}, {one + "rule 1 1 1;", 19}, {one + "rule 0 21 1;", 21}, {one + "rule 0 1 2;", 23},
            {one + one + "rule 1 20 4;", 38}, {one + "errand 1 1;" + one, 21},
            {five + one, 70}, {five + "thing", 70}, {five + "thingx", 70},
            {one + "errand 0 1;errand 0 1;errand 0 1;errand 0 1;errand 0 1;errand", 69},
            {one + "rule 0 1 1;rule 0 1 1;rule 0 1 1;rule 0 1 1; rule 0 1 1;", 59},
        };
        for (Object[] f : faults) due("read of '" + f[0] + "'", readOf((String) f[0]), -10 - (Integer) f[1]);
    }

    private static void pull() {
        says("promise 8");
        OneBell x = village("thing 0 2 3 1;thing 0 1 4 1;thing 0 9 1 1;");
        due("travel 2", x.pull(0, 4), 0);
        due("opens itself", x.open(), 1);
        due("travel 3", x.pull(0, 5), 1);
        due("travel 4, move 3 of the next", x.pull(0, 6), 1);
        due("its stop is 4", x.open(), 1);
        due("travel 5, move 4 of the next", x.pull(0, 7), 1);
        due("it opens", x.open(), 3);
        due("travel 18", x.pull(0, 20), 6);
        due("all open", x.open(), 7);
        due("less than its slack", x.pull(2, 8), 0);
        due("itself alone", x.open(), 4);
        x.rope(0, false);
        due("a cut rope does not ring", x.pull(0, 20), 0);
        due("it moves alone", x.open(), 1);
        int[][] wrongOnes = {{-1, 1}, {3, 1}, {0, -1}, {0, 21}, {LEAST, 1}, {MOST, 1}, {0, LEAST}, {0, MOST}};
        for (int[] w : wrongOnes) due("a wrong pull", x.pull(w[0], w[1]), OneBell.BAD);
        due("open", x.open(), 1);
        due("count(4)", x.count(4), 7);
        statusIs(x, 8, 0, 0);
    }

    /** Each kind pulled by itself, with stop 3, by these inches one after the other. */
    private static void kinds() {
        says("promise 8");
        int[] inches = {2, 3, 2, 5, 6, 2, 4, 20, 3};
        int[][] states = {
            {0, 1, 0, 1, 1, 0, 1, 1, 1},
            {0, 1, 1, 1, 1, 1, 1, 1, 1},
            {0, 0, 0, 0, 0, 0, 0, 0, 0},
            {0, 1, 1, 0, 1, 1, 0, 1, 0},
            {0, 1, 1, 1, 0, 0, 1, 0, 1}};
        for (int kind = DOOR; kind <= SLUICE; kind++) {
            OneBell x = new OneBell();
            x.thing(kind, 0, 3, 0);
            for (int i = 0; i < inches.length; i++) {
                x.pull(0, inches[i]);
                due("kind " + kind + " behind pull " + i, x.open(), states[kind][i]);
            }
        }
    }

    private static void both() {
        says("promise 9");
        OneBell x = village("thing 0 2 4 1;thing 0 3 6 1;thing 0 1 4 1;");
        due("travels 1 and 2", x.both(0, 3, 1, 5), 1);
        due("each moves by its own inches: 3 and 5; the third by 2", x.open(), 0);
        due("travels 2 and 3", x.both(0, 4, 1, 6), 1);
        due("all open", x.open(), 7);
        due("18 and 17", x.both(0, 20, 1, 20), 11);
        x.rope(0, false);
        due("the cut one adds nothing", x.both(1, 6, 0, 20), 1);
        due("and moves by its inches", x.open(), 3);
        due("count(4)", x.count(4), 4);
        due("undone as one", x.undo(), 1);
        due("open", x.open(), 7);
        int[][] wrongOnes = {{0, 1, 0, 1}, {-1, 1, 0, 1}, {0, 1, 3, 1}, {0, 21, 1, 1}, {0, 1, 1, 21}, {0, -1, 1, 1},
            {0, 1, 1, -1}, {MOST, 1, 1, 1}, {0, 1, LEAST, 1}, {5, 1, 5, 1}};
        for (int[] w : wrongOnes) due("wrong", x.both(w[0], w[1], w[2], w[3]), OneBell.BAD);
        statusIs(x, 10, 0, 0);
    }

    private static void would() {
        says("promise 10");
        OneBell x = village("thing 3 0 2 1;thing 1 1 2 1;");
        due("both", x.would(0, 3), 3);
        due("nothing is done", x.open(), 0);
        due("nothing to undo", x.count(4), 0);
        x.pull(0, 3);
        due("the wheel turns back, the latch stays", x.would(0, 3), 2);
        due("open", x.open(), 3);
        due("by 0", x.would(0, 0), 3);
        x.both(0, 0, 1, 0);
        due("by one alone again", x.would(0, 3), 2);
        due("wrong", x.would(2, 0), OneBell.BAD);
        due("wrong", x.would(-1, 0), OneBell.BAD);
        due("wrong", x.would(0, 21), OneBell.BAD);
        due("wrong", x.would(0, -1), OneBell.BAD);
        statusIs(x, 4, 0, 0);
    }

    private static void open() {
        says("promise 11");
        OneBell x = village("thing 0 9 1 1;thing 1 9 1 1;thing 0 9 1 1;thing 0 9 1 1;thing 1 9 1 1;");
        due("none", x.open(), 0);
        x.pull(4, 1);
        due("the last", x.open(), 16);
        x.pull(1, 1);
        due("and another", x.open(), 18);
        x.pull(3, 1);
        due("and a third", x.open(), 26);
        x.pull(0, 0);
        due("the door shuts", x.open(), 18);
    }

    private static void moves() {
        says("promise 12");
        OneBell x = village("thing 0 2 3 1;thing 0 1 2 1;");
        due("itself", x.moves(0, 7, 0), 7);
        due("the other one", x.moves(0, 7, 1), 4);
        due("the other way", x.moves(1, 7, 0), 4);
        due("0 at least", x.moves(0, 2, 1), 0);
        due("travel 1, all of it slack", x.moves(0, 3, 1), 0);
        x.rope(1, false);
        due("cut", x.moves(0, 20, 1), 0);
        due("pulled on a cut rope", x.moves(1, 20, 1), 20);
        due("no travel", x.moves(1, 20, 0), 0);
        int[][] wrongOnes = {{2, 1, 0}, {-1, 1, 0}, {0, 21, 0}, {0, -1, 0}, {0, 1, 2}, {0, 1, -1}, {0, 1, MOST}};
        for (int[] w : wrongOnes) due("wrong", x.moves(w[0], w[1], w[2]), OneBell.BAD);
        due("nothing is done", x.count(4), 0);
        statusIs(x, 7, 0, 0);
    }

    private static void undo() {
        says("promise 13");
        OneBell x = village("thing 3 0 1 1;thing 1 9 1 1;");
        due("none", x.undo(), OneBell.NO);
        x.pull(1, 1);
        for (int i = 0; i < 10; i++) x.pull(0, 1);
        due("ten at most", x.count(4), 10);
        for (int i = 9; i >= 0; i--) {
            due("undo", x.undo(), 1);
            due("the wheel turned back", x.open(), 2 + i % 2);
            due("left", x.count(4), i);
        }
        due("the eleventh", x.undo(), OneBell.NO);
        due("open", x.open(), 2);
        x.pull(0, 21);
        due("a refused pull is none", x.undo(), OneBell.NO);
        statusIs(x, 1, 3, 0);
    }

    private static void errand() {
        says("promise 14");
        OneBell x = village("thing 0 0 1 1;thing 0 0 1 1;");
        int[][] wrongOnes = {{2, 1}, {-1, 1}, {0, 21}, {0, -1}, {MOST, 1}, {0, LEAST}};
        for (int[] w : wrongOnes) due("wrong", x.errand(w[0], w[1]), OneBell.BAD);
        for (int e = 0; e < 5; e++) due("an errand", x.errand(e % 2, 5 * e), e);
        due("a 6th", x.errand(0, 0), OneBell.FULL);
        due("a wrong 6th", x.errand(2, 0), OneBell.BAD);
        due("count(2)", x.count(2), 5);
        due("an errand is not done yet", x.open(), 0);
        statusIs(x, 7, 0, 1);
    }

    private static void drop() {
        says("promise 15");
        OneBell x = village("thing 0 0 1 1;errand 0 3;errand 0 9;");
        due("rings 3 times", x.heard(3), 2);
        due("the last goes", x.drop(), 1);
        due("it was the last", x.heard(3), 0);
        due("the first stays", x.heard(1), 1);
        due("the other one goes", x.drop(), 0);
        due("none left", x.drop(), OneBell.NO);
        due("a new one is 0", x.errand(0, 0), 0);
        statusIs(x, 0, 1, 0);
    }

    private static void order() {
        says("promise 16");
        // A latch (harm 1) and a sluice (harm 9, stop 1): errand 0 opens the sluice, 1 shuts it, 2 the latch alone.
        OneBell x = village("thing 1 9 1 1;thing 4 9 1 9;errand 1 2;errand 1 4;errand 0 1;");
        due("harm", x.order(-1), 10);
        due("first", x.order(0), 0);
        due("second", x.order(1), 1);
        due("third", x.order(2), 2);
        due("a fourth", x.order(3), -5);
        due("far on", x.order(MOST), -5);
        x.pull(1, 2);
        due("open already: it is not opened again", x.order(-1), 1);
        due("first", x.order(0), 0);
        due("nothing is done", x.open(), 2);
        lastIsBest();
        due("wrong", x.order(-2), -10);
        due("wrong", x.order(LEAST), -10);
        statusIs(x, 2, 0, 0);
        OneBell none = new OneBell();
        due("no errands", none.order(-1), 0);
        due("no errands", none.order(0), -5);
    }

    private static void lastIsBest() {
        // A door of harm 9 with stop 1, open now: done first, the errand that keeps it open does no harm.
        OneBell x = village("thing 0 9 1 9;thing 1 9 1 2;errand 1 1;errand 0 1;");
        x.pull(0, 1);
        due("harm", x.order(-1), 2);
        due("first", x.order(0), 1);
        due("second", x.order(1), 0);
    }

    private static void code() {
        says("promise 17");
        OneBell x = village("thing 3 9 1 1;thing 3 9 1 1;errand 0 1;errand 0 2;errand 1 1;");
        due("none are needed", x.code(0, -1), 0);
        due("none is the first", x.code(0, 0), -5);
        due("one", x.code(1, -1), 1);
        due("the first row", x.code(1, 0), 0);
        due("two", x.code(3, -1), 2);
        due("first", x.code(3, 0), 0);
        due("second", x.code(3, 1), 2);
        due("third", x.code(3, 2), -5);
        due("far on", x.code(3, MOST), -5);
        x.drop();
        due("none leads there", x.code(2, -1), OneBell.NONE);
        due("none leads there", x.code(2, 0), OneBell.NONE);
        due("none leads there", x.code(2, 7), OneBell.NONE);
        sameErrandTwice();
        int[][] wrongOnes = {{4, 0}, {-1, 0}, {0, -2}, {MOST, 0}, {0, LEAST}};
        for (int[] w : wrongOnes) due("wrong", x.code(w[0], w[1]), -10);
        due("nothing is done", x.open(), 0);
        statusIs(x, 5, 0, 0);
        OneBell none = new OneBell();
        due("no things", none.code(0, -1), 0);
        due("no things", none.code(1, -1), -10);
    }

    private static void sameErrandTwice() {
        // The errand opens latch and wheel; done again it turns the wheel back.
        OneBell x = village("thing 1 0 1 1;thing 3 0 1 1;errand 0 1;");
        due("both", x.code(3, -1), 1);
        due("the latch alone", x.code(1, -1), 2);
        due("again", x.code(1, 1), 0);
        OneBell three = village("thing 3 9 1 1;thing 3 9 1 1;thing 3 9 1 1;errand 2 1;errand 1 1;errand 0 1;");
        three.pull(1, 1);
        due("as it is", three.code(2, -1), 0);
        due("all three turned", three.code(5, -1), 3);
        for (int i = 0; i < 3; i++) due("one after the other", three.code(5, i), i);
        due("no fourth", three.code(5, 3), -5);
    }

    private static void who() {
        says("promise 18");
        // Errands 0 and 1 turn the wheel, 2 opens the latch.
        OneBell x = village("thing 3 9 1 1;thing 1 9 1 1;errand 0 1;errand 0 2;errand 1 1;");
        due("nothing open", x.who(0, 0), 2);
        due("the least", x.who(0, 1), 0);
        due("the wheel", x.who(1, 0), 2);
        due("the least", x.who(1, 1), 1);
        due("both", x.who(3, 0), 2);
        due("the least", x.who(3, 1), 5);
        x.pull(1, 1);
        due("the latch stays open", x.who(1, 0), 0);
        due("none", x.who(1, 1), OneBell.NONE);
        due("0, 01, 2, 012", x.who(2, 0), 4);
        risingNumbers();
        int[][] wrongOnes = {{4, 0}, {-1, 0}, {0, 2}, {0, -1}, {MOST, 1}, {0, LEAST}};
        for (int[] w : wrongOnes) due("wrong", x.who(w[0], w[1]), -10);
        statusIs(x, 6, 0, 0);
    }

    private static void risingNumbers() {
        // A sluice: errand 0 shuts it, 1 opens it: both leave it open.
        OneBell x = village("thing 4 9 1 1;errand 0 4;errand 0 1;");
        due("open", x.who(1, 0), 2);
        due("the least", x.who(1, 1), 2);
        due("shut", x.who(0, 0), 2);
    }

    private static void heard() {
        says("promise 19");
        OneBell x = village("thing 0 2 3 1;thing 0 9 2 1;errand 0 4;errand 0 5;errand 0 20;errand 1 20;errand 1 12;");
        due("not at all", x.heard(0), 1);
        due("once", x.heard(1), 18);
        due("3 times", x.heard(3), 8);
        due("6 times", x.heard(6), 4);
        due("7 times", x.heard(7), 0);
        due("far on", x.heard(MOST), 0);
        x.damp(1);
        due("damp shortens", x.heard(1), 19);
        due("none silent", x.heard(0), 0);
        x.rope(0, false);
        due("cut", x.heard(0), 7);
        due("wrong", x.heard(-1), OneBell.BAD);
        due("wrong", x.heard(LEAST), OneBell.BAD);
        statusIs(x, 2, 0, 0);
    }

    private static void cuts() {
        says("promise 20");
        OneBell x = village("thing 0 0 3 1;thing 0 0 2 1;thing 0 0 3 1;errand 0 2;");
        due("nothing told", x.cuts(0), 0);
        due("what does not open anyhow", x.cuts(5), 0);
        due("the puller's rope is the least bits", x.cuts(2), 1);
        x.rope(0, false);
        due("a cut one pulls none", x.cuts(2), 0);
        x.rope(0, true);
        x.errand(2, 2);
        due("its own is one, the pullers' are two", x.cuts(2), 2);
        x.errand(1, 2);
        due("pulled itself: no rope helps", x.cuts(2), OneBell.NONE);
        x.pull(1, 2);
        due("open already: it does not become so", x.cuts(2), 0);
        due("nothing is cut", x.count(1), 3);
        due("wrong", x.cuts(8), -10);
        due("wrong", x.cuts(-1), -10);
        due("wrong", x.cuts(LEAST), -10);
        statusIs(x, 3, 0, 0);
        onlyWholeRopes();
    }

    private static void onlyWholeRopes() {
        OneBell x = village("thing 0 0 1 1;thing 0 0 1 1;thing 0 0 1 1;errand 0 1;cut 1;");
        due("of the whole ones", x.cuts(6), 1);
        x.errand(2, 1);
        due("thing 2 is pulled", x.cuts(4), OneBell.NONE);
        due("thing 1 hangs on nothing", x.cuts(2), 0);
        // Each errand opens all things behind its own: of any two one is to be cut.
        OneBell four = village("thing 0 0 5 1;thing 0 0 4 1;thing 0 0 3 1;thing 0 0 2 1;thing 0 0 1 1;"
            + "errand 0 4;errand 1 3;errand 2 2;errand 3 1;");
        due("four of five", four.cuts(31), 15);
        due("for the last one it is enough", four.cuts(16), 16);
        OneBell none = new OneBell();
        due("no things", none.cuts(0), 0);
    }

    private static void rule() {
        says("promise 21");
        OneBell x = village("thing 0 0 1 1;thing 0 0 1 1;");
        int[][] wrongOnes = {{2, 1, 0}, {-1, 1, 0}, {0, 21, 0}, {0, -1, 0}, {0, 1, 4}, {0, 1, -1}, {0, 1, LEAST}};
        for (int[] w : wrongOnes) due("wrong", x.rule(w[0], w[1], w[2]), OneBell.BAD);
        due("rule 0", x.rule(0, 0, 0), 0);
        due("rule 1", x.rule(1, 20, 3), 1);
        due("rule 2", x.rule(1, 20, 3), 2);
        due("rule 3", x.rule(1, 20, 3), 3);
        due("a 5th", x.rule(1, 20, 3), OneBell.FULL);
        due("a wrong 5th", x.rule(1, 20, 4), OneBell.BAD);
        due("count(3)", x.count(3), 4);
        statusIs(x, 8, 0, 1);
    }

    private static void free() {
        says("promise 22");
        OneBell x = village("thing 0 0 1 1;rule 0 1 1;rule 0 1 0;");
        due("there were", x.free(), 2);
        due("count(3)", x.count(3), 0);
        due("none more", x.free(), 0);
        due("a new one is 0", x.rule(0, 1, 1), 0);
    }

    private static void slack() {
        says("promise 23");
        OneBell x = village("thing 0 5 3 1;thing 1 5 3 1;thing 3 5 2 1;");
        due("no rules: the least", x.slack(0), 0);
        // Pulled by 6, thing 1 is to move 3 at least, thing 2 is to move 1 at most: 0 + 5 = 5.
        x.rule(0, 6, 3);
        due("0", x.slack(0), 0);
        due("1", x.slack(1), 0);
        due("2", x.slack(2), 5);
        // Thing 0 may not move 3 by thing 1's pull: the two have 3 at least, and by the first rule 3 at most.
        x.rule(1, 5, 2);
        due("0", x.slack(0), 0);
        due("1", x.slack(1), 3);
        due("2", x.slack(2), 5);
        due("its slack is as it was", x.moves(0, 6, 1), 0);
        wholeUndampedShut();
        x.rule(0, 2, 1);
        due("2 inches can't open it", x.slack(0), OneBell.NONE);
        due("2 inches can't open it", x.slack(2), OneBell.NONE);
        due("wrong", x.slack(3), -10);
        due("wrong", x.slack(-1), -10);
        due("wrong", x.slack(MOST), -10);
        statusIs(x, 3, 0, 0);
    }

    private static void wholeUndampedShut() {
        OneBell x = village("thing 0 5 1 1;thing 3 9 1 1;rule 0 3 1;cut 0;cut 1;damp 9;");
        x.pull(1, 1);
        due("just 3 inches of slack", x.slack(0), 0);
        due("just 3 inches of slack", x.slack(1), 3);
        OneBell lid = village("thing 2 0 1 1;rule 0 9 0;");
        due("a lid stays shut", lid.slack(0), 0);
        lid.rule(0, 9, 1);
        due("a lid never opens", lid.slack(0), OneBell.NONE);
        OneBell sluice = village("thing 0 0 1 1;thing 4 0 2 1;rule 0 9 3;");
        due("its move is 4 at most", sluice.slack(0), 0);
        due("its move is 4 at most", sluice.slack(1), 5);
        OneBell far = village("thing 0 0 1 1;thing 0 0 1 1;rule 0 18 1;");
        due("9 and 9", far.slack(0), 9);
        due("9 and 9", far.slack(1), 9);
        OneBell tooFar = village("thing 0 0 1 1;thing 0 0 1 1;rule 0 19 1;");
        due("19 is too much", tooFar.slack(0), OneBell.NONE);
    }

    private static void giveUp() {
        says("promise 24");
        OneBell x = village("thing 0 0 2 1;thing 0 0 2 1;");
        due("no rules", x.giveUp(), 0);
        x.rule(0, 5, 3);
        due("it can be", x.giveUp(), 0);
        x.rule(0, 5, 1);
        due("one of two: the least bits", x.giveUp(), 1);
        x.rule(1, 5, 3);
        due("the one against two", x.giveUp(), 2);
        x.rule(0, 1, 1);
        due("and the one that can't be", x.giveUp(), 10);
        due("the rules stay", x.count(3), 4);
        x.free();
        for (int i = 0; i < 4; i++) x.rule(0, 1, 3);
        due("all", x.giveUp(), 15);
        due("no things", new OneBell().giveUp(), 0);
    }

    private static void share() {
        says("promise 25");
        OneBell x = village("thing 0 0 1 6;thing 0 0 1 4;thing 0 0 1 1;errand 0 1;");
        // Thing 0 opens by itself. Thing 1 needs its own rope and thing 0's; so does thing 2: half of each.
        due("share", x.share(0), 1);
        due("above", x.part(0), 5);
        due("below", x.part(1), 2);
        x.share(1);
        due("above", x.part(0), 2);
        due("below", x.part(1), 1);
        x.share(2);
        due("above", x.part(0), 1);
        due("below", x.part(1), 2);
        x.rope(0, false);
        x.pull(1, 1);
        x.share(1);
        due("cut ropes as whole, nothing open", x.part(0), 2);
        for (int t : new int[] {3, -1, LEAST, MOST}) due("wrong", x.share(t), OneBell.BAD);
        due("the fraction stays", x.part(0), 2);
        statusIs(x, 4, 0, 0);
        shareEdges();
    }

    private static void shareEdges() {
        // A sluice pulled too far by rope does no harm, but none is above nought here either: 0 by 1.
        OneBell x = village("thing 0 0 1 6;thing 4 0 1 8;errand 0 9;");
        x.share(1);
        due("above", x.part(0), 0);
        due("below", x.part(1), 1);
        OneBell thirds = village("thing 0 0 1 0;thing 0 0 2 1;thing 0 5 1 0;errand 0 2;errand 2 8;errand 2 9;");
        // With ropes 0, 1: errand 0. With ropes 1, 2: errands 1 and 2. With 1, 0, 2 all three.
        thirds.share(1);
        due("above", thirds.part(0), 3);
        due("below", thirds.part(1), 2);
        thirds.damp(9);
        thirds.share(2);
        due("1 each of two errands by halves", thirds.part(0), 1);
        OneBell no = village("thing 0 0 1 6;");
        no.share(0);
        due("no errands", no.part(0), 0);
        due("no errands", no.part(1), 1);
    }

    private static void part() {
        says("promise 26");
        OneBell x = village("thing 0 0 1 6;thing 0 0 1 3;errand 0 1;");
        due("at first", x.part(0), 0);
        due("at first", x.part(1), 1);
        x.share(0);
        due("above", x.part(0), 3);
        due("below", x.part(1), 2);
        for (int w : new int[] {2, -1, LEAST, MOST}) due("wrong", x.part(w), -1000);
        x.image(0);
        x.share(1);
        x.from(0);
        due("images keep none", x.part(0), 3);
        statusIs(x, 4, 0, 0);
    }

    private static void image() {
        says("promise 27");
        OneBell x = village("thing 0 0 1 6;");
        due("0", x.image(0), 1);
        x.pull(0, 1);
        due("1", x.image(1), 1);
        x.pull(0, 0);
        due("wrong", x.image(2), OneBell.BAD);
        due("wrong", x.image(-1), OneBell.BAD);
        due("wrong", x.image(LEAST), OneBell.BAD);
        x.from(1);
        due("kept open", x.open(), 1);
        x.from(0);
        due("kept shut", x.open(), 0);
        x.pull(0, 1);
        x.image(0);
        x.pull(0, 0);
        x.from(0);
        due("kept anew", x.open(), 1);
        statusIs(x, 3, 0, 0);
    }

    private static void from() {
        says("promise 28");
        OneBell x = village("thing 3 0 1 6;thing 1 9 2 3;errand 0 1;rule 0 1 1;damp 2;cut 1;");
        x.pull(0, 1);
        due("none was kept", x.from(1), OneBell.NO);
        x.image(1);
        due("0 neither", x.from(0), OneBell.NO);
        long kept = x.digest();
        for (int i = 0; i < 10; i++) x.pull(0, 1);
        x.thing(0, 0, 1, 1);
        x.rope(1, true);
        x.damp(5);
        x.errand(0, 3);
        x.free();
        typeText(x, "damp");
        due("from", x.from(1), 1);
        due("the text is not kept", x.clear(), 4);
        due("all else is", x.digest(), kept);
        due("what may be undone too", x.undo(), 1);
        due("open", x.open(), 0);
        due("no more", x.undo(), OneBell.NO);
        due("again from it", x.from(1), 1);
        due("open", x.open(), 1);
        due("wrong", x.from(2), OneBell.BAD);
        due("wrong", x.from(-1), OneBell.BAD);
        due("wrong", x.from(MOST), OneBell.BAD);
        statusIs(x, 3, 3, 0);
    }

    private static void status() {
        says("promise 29");
        OneBell x = new OneBell();
        x.undo();
        x.drop();
        x.pull(0, 0);
        x.order(-2);
        x.part(5);
        x.code(0, 0);
        typeText(x, "x");
        x.read();
        statusIs(x, 3, 2, 0);
        for (int i = 0; i < 8; i++) x.thing(0, 0, 1, 0);
        statusIs(x, 3, 2, 3);
        due("another what", x.status(3), -1);
        due("another what", x.status(-1), -1);
        due("another what", x.status(LEAST), -1);
        statusIs(x, 6, 2, 3);
        x.image(0);
        x.undo();
        x.from(0);
        statusIs(x, 6, 3, 3);
    }

    private static void count() {
        says("promise 30");
        OneBell x = village("thing 0 0 1 0;thing 0 0 1 0;thing 0 0 1 0;cut 1;errand 0 1;errand 0 1;rule 0 1 1;damp 8;");
        x.pull(0, 0);
        typeText(x, "abcde");
        long[] counts = {3, 2, 2, 1, 1, 5, 8};
        for (int what = 0; what <= 6; what++) due("count(" + what + ")", x.count(what), counts[what]);
        for (int w : new int[] {7, -1, LEAST, MOST}) due("wrong", x.count(w), OneBell.BAD);
        statusIs(x, 4, 0, 0);
    }

    private static void digest() {
        says("promise 31");
        due("a new one", new OneBell().digest(), mixed(0, 0, 0, 0, 0, 0, 0, 0, 0, 1));
        OneBell x = village("thing 1 2 3 4;thing 0 5 1 7;cut 0;errand 0 20;errand 1 7;rule 1 6 3;rule 0 9 2;damp 8;");
        x.pull(0, 3);
        x.share(1);
        typeText(x, "ab");
        // By errand 1 (travel 7) thing 0 opens, by errand 0 (travel 20) thing 1: half of 4 and of 7.
        due("all", x.digest(), mixed(2, 1, 2, 2, 1, 2, 8, 1, 1, 2, 3, 4, 0, 0, 5, 1, 7, 1, 0, 20, 1, 7, 1, 6, 3, 0, 9, 2,
            11, 2));
        due("digest changes nothing", x.status(0), 0);
        digestOfAFullOne();
    }

    /** So many values that h goes far beyond what a long holds, and wraps around. */
    private static void digestOfAFullOne() {
        OneBell x = village("thing 0 9 1 9;thing 1 8 2 8;thing 2 7 3 7;thing 3 6 4 6;thing 4 5 9 5;cut 0;cut 4;damp 9;"
            + "errand 0 20;errand 1 19;errand 2 18;errand 3 17;errand 4 16;");
        for (int r = 0; r <= 3; r++) x.rule(4 - r, 20 - r, 31 - r);
        for (int i = 0; i < 11; i++) x.pull(3, 20 - i % 2);
        typeText(x, times(200, ";"));
        // Errands 1 to 4 open thing 0 by two ropes: half of 9, four times. Errand 0 opens 1 and 3 so: half of 14.
        x.share(0);
        due("above", x.part(0), 25);
        due("below", x.part(1), 1);
        due("all", x.digest(), mixed(5, 3, 5, 4, 10, 200, 9, 10, 0, 9, 1, 9, 0, 1, 8, 2, 8, 1, 2, 7, 3, 7, 1, 3, 6, 4, 6, 1,
            4, 5, 9, 5, 0, 0, 20, 1, 19, 2, 18, 3, 17, 4, 16, 4, 20, 31, 3, 19, 30, 2, 18, 29, 1, 17, 28, 25, 1));
    }
}
