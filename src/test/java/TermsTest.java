/**
 * The edges that the document's terms name, a method for each sentence: the last value that is as told and the first
 * that is not, at both ends; first states; what "0 at least" and "at most" keep. Answers are worked out by hand.
 */
public final class TermsTest extends Due {
    private static final String ONE = "thing 0 0 1 0;";

    public static void main(String[] args) {
        thingsComeAsNumbers0To4();
        kindsAre0To4();
        slackIs0To9();
        stopIs1To9();
        harmIs0To9();
        aRopeIsWholeAtFirst();
        dampIs0To9();
        dampIs0AtFirst();
        dampTakesNoSlackBelow0();
        noneIsOpenAtFirst();
        inchesAre0To20();
        travelIs0AtLeast();
        travelIs0IfTheRopeIsCut();
        travelOfTwoTogether();
        moveOfAPulledOne();
        moveIs0AtLeast();
        moveIs0IfTheRopeIsCut();
        ringsAsOftenAs3GoesIn();
        doorAtItsStop();
        latchAtItsStop();
        lidAtItsStop();
        wheelAtItsStop();
        sluiceAtItsStopAnd3();
        stopsOfOthersByTheirMove();
        allAtOnce();
        harmOfWhatWasNotOpen();
        errandsComeAsNumbers0To4();
        orderOfLikeOnesTheFirst();
        orderOfNotSoMany();
        codeOfNone();
        codeOfLikeOnesTheFirst();
        whoDoneByRisingNumbers();
        heardAsNow();
        cutsOfWholeOnes();
        cutsOfLikeOnesTheLeast();
        rulesComeAsNumbers0To3();
        rulesAreForWholeRopesNoDampNothingOpen();
        slacksAre0To9Each();
        slacksAreTheFirstRow();
        slacksOfThreeThatHangTogether();
        ruleOfThePulledOne();
        giveUpOfLikeOnesTheLeast();
        shareFromNothingOpenDampAsNow();
        shareCutOnesAsWhole();
        undo10AtMost();
        undoOfOpenAlone();
        imagesAre0And1();
        imagesKeepAllButThese();
        imagesKeepWhatMayBeUndone();
        imagesKeepTheStatesToGoBackTo();
        statusCountsWhatIsToldSo();
        fractionIs0By1AtFirst();
        fractionInLowestTerms();
        theFirstOfBadNoFull();
        others();
        fiveHundredAndTwelveCalls();
        end("all terms hold at their edges");
    }

    // ---- things

    private static void thingsComeAsNumbers0To4() {
        says("THINGS 0 .. 4, as they come");
        OneBell x = new OneBell();
        for (int t = 0; t <= 4; t++) due("thing", x.thing(DOOR, 0, 1, 0), t);
        due("a 6th", x.thing(DOOR, 0, 1, 0), OneBell.FULL);
        for (int t = 0; t <= 4; t++) due("pull of " + t, x.pull(t, 0), 0);
        due("pull of 5", x.pull(5, 0), OneBell.BAD);
        due("pull of -1", x.pull(-1, 0), OneBell.BAD);
        readInto(x, ONE + ONE);
        due("behind two that were read", x.thing(DOOR, 0, 1, 0), 2);
        x.image(0);
        due("a 4th", x.thing(DOOR, 0, 1, 0), 3);
        x.from(0);
        due("a 4th from an image of three", x.thing(DOOR, 0, 1, 0), 3);
    }

    /** A thing of which three are 0, 0, 1, 0 and one is told, by a call and by a text. */
    private static void oneOfFourIs(int which, int least, int most) {
        int place = 6 + 2 * which;
        for (int v = -3; v <= 25; v++) {
            int[] four = {0, 0, 1, 0};
            four[which] = v;
            boolean asTold = v >= least && v <= most;
            OneBell x = new OneBell();
            due("thing with " + v, x.thing(four[0], four[1], four[2], four[3]), asTold ? 0 : OneBell.BAD);
            countsAre(x, asTold ? 1 : 0);
            if (v < 0) continue;
            String text = "thing " + four[0] + " " + four[1] + " " + four[2] + " " + four[3] + ";";
            due(text, readOf(text), asTold ? 1 : -10 - place);
        }
        for (int far : new int[] {LEAST, LEAST + 1, -256, 32, 256, 65536, MOST - 1, MOST}) {
            int[] four = {0, 0, 1, 0};
            four[which] = far;
            due("thing with " + far, new OneBell().thing(four[0], four[1], four[2], four[3]), OneBell.BAD);
        }
    }

    private static void kindsAre0To4() {
        says("KINDS 0 DOOR .. 4 SLUICE");
        oneOfFourIs(0, 0, 4);
    }

    private static void slackIs0To9() {
        says("SLACK (0 .. 9)");
        oneOfFourIs(1, 0, 9);
        OneBell x = village("thing 0 0 1 0;thing 0 9 1 0;");
        due("9 is taken off", x.moves(0, 20, 1), 11);
        due("0 is taken off", x.moves(1, 20, 0), 11);
    }

    private static void stopIs1To9() {
        says("STOP (1 .. 9)");
        oneOfFourIs(2, 1, 9);
        OneBell x = village("thing 0 0 1 0;thing 0 0 9 0;");
        due("0 and 0", x.would(0, 0), 0);
        due("1 and 1", x.would(0, 1), 1);
        due("8 and 8", x.would(0, 8), 1);
        due("9 and 9", x.would(0, 9), 3);
    }

    private static void harmIs0To9() {
        says("HARM (0 .. 9)");
        oneOfFourIs(3, 0, 9);
        OneBell x = village("thing 1 0 1 9;errand 0 1;");
        due("9", x.order(-1), 9);
        readInto(x, "thing 1 0 1 0;errand 0 1;");
        due("0", x.order(-1), 0);
    }

    // ---- ropes and damp

    private static void aRopeIsWholeAtFirst() {
        says("a ROPE (whole at first; or cut)");
        OneBell x = new OneBell();
        for (int t = 0; t <= 4; t++) {
            x.thing(DOOR, 0, 1, 0);
            due("whole ones", x.count(1), 1);
            due("it is whole", x.rope(t, true), OneBell.NO);
            due("cut", x.rope(t, false), 1);
            due("it is cut", x.rope(t, false), OneBell.NO);
            due("none whole", x.count(1), 0);
        }
        for (int t = 0; t <= 4; t++) {
            due("whole again", x.rope(t, true), 1);
            due("whole ones", x.count(1), t + 1);
        }
        readInto(x, "thing 0 0 1 0;cut 0;thing 0 0 1 0;");
        due("what comes behind a cut one is whole", x.rope(1, true), OneBell.NO);
        due("the cut one is cut", x.rope(0, false), OneBell.NO);
        readInto(x, "thing 0 0 1 0;");
        due("read anew it is whole", x.rope(0, true), OneBell.NO);
    }

    private static void dampIs0To9() {
        says("DAMP (0 .. 9)");
        OneBell x = new OneBell();
        for (int n = 0; n <= 9; n++) {
            due("damp", x.damp(n), Math.max(0, n - 1));
            due("count(6)", x.count(6), n);
            due("the same", x.damp(n), n);
            due("damp " + n + ";", readOf("damp " + n + ";"), 1);
        }
        for (int n : new int[] {-1, 10, 11, 32, 256, LEAST, MOST}) due("damp " + n, x.damp(n), OneBell.BAD);
        due("it is as it was", x.count(6), 9);
        for (int n = 10; n <= 25; n++) due("damp " + n + ";", readOf("damp " + n + ";"), -15);
    }

    private static void dampIs0AtFirst() {
        says("DAMP (0 at first)");
        due("count(6)", new OneBell().count(6), 0);
        due("damp", new OneBell().damp(5), 0);
        OneBell x = new OneBell();
        x.damp(7);
        readInto(x, ONE);
        due("in a text that tells none", x.count(6), 0);
        readInto(x, "damp 9;" + ONE);
        due("told ahead of a thing", x.count(6), 9);
    }

    private static void dampTakesNoSlackBelow0() {
        says("DAMP is taken off each SLACK (0 at least)");
        // Slacks 4 (pulled) and 6: travel 20 - 4, move 16 - 6.
        OneBell x = village("thing 0 4 1 0;thing 0 6 1 0;");
        int[] moves = {10, 12, 14, 16, 18, 19, 20, 20, 20, 20};
        for (int n = 0; n <= 9; n++) {
            x.damp(n);
            due("move by damp " + n, x.moves(0, 20, 1), moves[n]);
            due("rings by damp " + n, x.pull(0, 10), (10 - Math.max(0, 4 - n)) / 3);
        }
        x.thing(DOOR, 9, 1, 0);
        due("of one that comes later, too", x.moves(0, 20, 2), 20);
        x.damp(0);
        due("the slack itself stays", x.moves(0, 20, 1), 10);
        due("the slack itself stays", x.moves(0, 20, 2), 7);
    }

    private static void noneIsOpenAtFirst() {
        says("OPEN (none at first)");
        OneBell x = new OneBell();
        due("nothing hangs there", x.open(), 0);
        for (int t = 0; t <= 4; t++) {
            x.thing(t, 0, 1, 0);
            due("a new one is shut", x.open(), 0);
        }
        x.pull(0, 1);
        due("all but the lid", x.open(), 27);
        readInto(x, times(5, ONE));
        due("read", x.open(), 0);
        x.pull(0, 1);
        x.image(0);
        readInto(x, ONE);
        x.pull(0, 1);
        x.thing(DOOR, 0, 1, 0);
        due("a new one beside an open one", x.open(), 1);
    }

    // ---- pulls

    private static void inchesAre0To20() {
        says("INCHES (0 .. 20)");
        for (int n = -3; n <= 40; n++) {
            boolean asTold = n >= 0 && n <= 20;
            OneBell x = village(ONE + ONE);
            due("pull by " + n, x.pull(0, n), asTold ? n / 3 : OneBell.BAD);
            due("both, the first by " + n, x.both(0, n, 1, 0), asTold ? n / 3 : OneBell.BAD);
            due("both, the second by " + n, x.both(0, 0, 1, n), asTold ? n / 3 : OneBell.BAD);
            due("would by " + n, x.would(0, n), asTold ? (n > 0 ? 3 : 0) : OneBell.BAD);
            due("moves by " + n, x.moves(0, n, 1), asTold ? n : OneBell.BAD);
            due("errand by " + n, x.errand(0, n), asTold ? 0 : OneBell.BAD);
            due("rule by " + n, x.rule(0, n, 0), asTold ? 0 : OneBell.BAD);
            statusIs(x, asTold ? 0 : 7, 0, 0);
            if (n < 0) continue;
            due("errand " + n + " told", readOf(ONE + "errand 0 " + n + ";"), asTold ? 2 : -33);
            due("rule " + n + " told", readOf(ONE + "rule 0 " + n + " 0;"), asTold ? 2 : -31);
        }
        for (int far : new int[] {LEAST, -256, 256, 1 << 16, MOST}) due("pull", village(ONE).pull(0, far), OneBell.BAD);
    }

    private static void travelIs0AtLeast() {
        says("TRAVEL of the bell is n less p's SLACK (0 at least)");
        // The second has slack 0 and stop 1: it opens by any travel above 0.
        OneBell x = village("thing 0 7 9 0;thing 0 0 1 0;");
        int[] travels = {0, 0, 0, 0, 0, 0, 0, 0, 1, 2, 3};
        for (int n = 0; n <= 10; n++) {
            due("move by " + n, x.moves(0, n, 1), travels[n]);
            due("opens by " + n, x.would(0, n) >> 1, travels[n] > 0 ? 1 : 0);
            due("rings by " + n, x.pull(0, n), travels[n] / 3);
        }
        OneBell nine = village("thing 0 9 9 0;thing 0 0 1 0;");
        due("0 less 9", nine.moves(0, 0, 1), 0);
        due("rings", nine.pull(0, 0), 0);
        due("20 less 9", nine.moves(0, 20, 1), 11);
        due("rings", nine.pull(0, 20), 3);
    }

    private static void travelIs0IfTheRopeIsCut() {
        says("TRAVEL 0 if p's ROPE is cut");
        OneBell x = village("thing 0 0 1 0;thing 0 0 1 0;cut 0;");
        due("rings", x.pull(0, 20), 0);
        due("the other one stays", x.open(), 1);
        due("its move", x.moves(0, 20, 1), 0);
        due("the other one rings, and does not pull this one", x.pull(1, 20), 6);
        due("open", x.open(), 2);
        x.rope(0, true);
        due("rings", x.pull(0, 20), 6);
        due("open", x.open(), 3);
    }

    private static void travelOfTwoTogether() {
        says("by two at once both together");
        OneBell x = village("thing 0 9 1 0;thing 0 0 1 0;thing 0 0 1 0;");
        due("none takes off another's travel", x.both(0, 0, 1, 9), 3);
        due("none takes off another's travel", x.both(1, 9, 0, 9), 3);
        due("1 and 2", x.both(0, 10, 1, 2), 1);
        due("1 and 1", x.both(0, 10, 1, 1), 0);
        due("the third moves by 2", x.open(), 7);
        due("0 and 0", x.both(0, 9, 1, 0), 0);
        due("it does not move", x.open(), 1);
        due("20 and 20", x.both(1, 20, 2, 20), 13);
        due("11 and 20", x.both(0, 20, 2, 20), 10);
        x.rope(1, false);
        due("the cut one's is 0", x.both(1, 20, 2, 20), 6);
        due("the cut one's is 0", x.both(2, 20, 1, 20), 6);
        x.rope(2, false);
        due("both cut", x.both(1, 20, 2, 20), 0);
        due("both are moved by hand", x.open(), 6);
    }

    private static void moveOfAPulledOne() {
        says("MOVE of a THING that is pulled: n");
        OneBell x = village("thing 0 9 9 0;thing 0 9 9 0;thing 0 0 9 0;");
        for (int n = 0; n <= 20; n++) due("by " + n, x.moves(1, n, 1), n);
        due("its slack counts nothing", x.would(1, 9), 2);
        due("8 is not its stop", x.would(1, 8), 0);
        x.both(0, 9, 1, 8);
        due("of two each by its own", x.open(), 1);
        x.both(0, 8, 1, 9);
        due("of two each by its own", x.open(), 2);
        x.both(0, 8, 2, 20);
        due("not by the travel of 20", x.open(), 6);
        x.rope(1, false);
        due("on a cut rope, too", x.moves(1, 20, 1), 20);
        due("on a cut rope, too", x.would(1, 9), 2);
    }

    private static void moveIs0AtLeast() {
        says("MOVE of another one: TRAVEL less its SLACK (0 at least)");
        OneBell x = village("thing 0 0 1 0;thing 0 5 1 0;thing 3 5 1 0;");
        int[] moves = {0, 0, 0, 0, 0, 0, 1, 2};
        for (int n = 0; n <= 7; n++) {
            due("by " + n, x.moves(0, n, 1), moves[n]);
            due("opens by " + n, x.would(0, n) >> 1, n > 5 ? 3 : 0);
        }
        OneBell nines = village("thing 0 9 1 0;thing 0 9 1 0;");
        int[] far = {0, 0, 1, 2};
        for (int n = 17; n <= 20; n++) due("by " + n, nines.moves(0, n, 1), far[n - 17]);
    }

    private static void moveIs0IfTheRopeIsCut() {
        says("MOVE 0 if its ROPE is cut");
        OneBell x = village("thing 0 0 1 0;thing 0 0 1 0;thing 0 0 1 0;cut 2;");
        due("cut", x.moves(0, 20, 2), 0);
        due("whole", x.moves(0, 20, 1), 20);
        due("would", x.would(0, 20), 3);
        x.both(0, 20, 1, 20);
        due("by two", x.open(), 3);
        x.damp(9);
        due("damp makes none whole", x.moves(0, 20, 2), 0);
    }

    private static void ringsAsOftenAs3GoesIn() {
        says("It RINGS as often as 3 goes into TRAVEL");
        int[] rings = {0, 0, 0, 1, 1, 1, 2, 2, 2, 3, 3, 3, 4, 4, 4, 5, 5, 5, 6, 6, 6};
        OneBell x = village("thing 0 0 1 0;thing 0 9 1 0;");
        for (int n = 0; n <= 20; n++) {
            due("travel " + n, x.pull(0, n), rings[n]);
            due("9 less", x.pull(1, n), n < 9 ? 0 : rings[n - 9]);
        }
        due("20 and 11", x.both(0, 20, 1, 20), 10);
        due("19 and 11", x.both(0, 19, 1, 20), 10);
        due("18 and 11", x.both(0, 18, 1, 20), 9);
    }

    // ---- kinds

    /** Pulled by its stop less one, its stop, and 2 and 3 more: what it is then, if it was shut, and if it was open. */
    private static void kindAtItsStop(int kind, int[] fromShut, int[] fromOpen) {
        int[] more = {-1, 0, 1, 2, 3, 4};
        for (int stop = 1; stop <= 9; stop++) {
            for (int i = 0; i < more.length; i++) {
                OneBell x = new OneBell();
                x.thing(kind, 0, stop, 0);
                due("kind " + kind + " shut, stop " + stop + " and " + more[i], x.would(0, stop + more[i]), fromShut[i]);
                if (fromOpen == null) continue;
                x.pull(0, stop);
                due("open", x.open(), 1);
                due("kind " + kind + " open, stop " + stop + " and " + more[i], x.would(0, stop + more[i]), fromOpen[i]);
            }
            OneBell x = new OneBell();
            x.thing(kind, 0, stop, 0);
            due("kind " + kind + " by nothing", x.would(0, 0), 0);
            due("kind " + kind + " by 20", x.would(0, 20), fromShut[5]);
        }
    }

    private static void doorAtItsStop() {
        says("0 DOOR: OPEN, if m is STOP at least; else not");
        kindAtItsStop(DOOR, new int[] {0, 1, 1, 1, 1, 1}, new int[] {0, 1, 1, 1, 1, 1});
    }

    private static void latchAtItsStop() {
        says("1 LATCH: OPEN, if it was, or as a DOOR");
        kindAtItsStop(LATCH, new int[] {0, 1, 1, 1, 1, 1}, new int[] {1, 1, 1, 1, 1, 1});
    }

    private static void lidAtItsStop() {
        says("2 LID: not, if a DOOR would be OPEN; else as it was");
        kindAtItsStop(LID, new int[] {0, 0, 0, 0, 0, 0}, null);
    }

    private static void wheelAtItsStop() {
        says("3 WHEEL: if a DOOR would be OPEN, the other way about than it was; else as it was");
        kindAtItsStop(WHEEL, new int[] {0, 1, 1, 1, 1, 1}, new int[] {1, 0, 0, 0, 0, 0});
    }

    private static void sluiceAtItsStopAnd3() {
        says("4 SLUICE: as a LATCH; but not, if m is STOP and 3 at least");
        kindAtItsStop(SLUICE, new int[] {0, 1, 1, 1, 0, 0}, new int[] {1, 1, 1, 1, 0, 0});
    }

    private static void stopsOfOthersByTheirMove() {
        says("What it is then by its MOVE m");
        // Pulled by n the others, of slack 2 and stop 4, move by n less 2: the sluice shuts from 9 on.
        OneBell x = village("thing 0 0 1 0;thing 1 2 4 0;thing 2 2 4 0;thing 3 2 4 0;thing 4 2 4 0;");
        int[] opens = {0, 1, 1, 1, 1, 1, 27, 27, 27, 11, 11};
        for (int n = 0; n <= 10; n++) due("by " + n, x.would(0, n), opens[n]);
        x.pull(0, 6);
        int[] behind = {26, 27, 27, 27, 27, 27, 19, 19, 19, 3, 3};
        for (int n = 0; n <= 10; n++) due("open ahead, by " + n, x.would(0, n), behind[n]);
    }

    private static void allAtOnce() {
        says("All at once, by what was ahead of it");
        OneBell x = village("thing 3 0 1 0;thing 3 0 1 0;thing 1 0 1 0;");
        x.both(0, 0, 1, 1);
        due("the wheel pulled by 0 stays, one turns, the latch opens", x.open(), 6);
        x.both(0, 1, 1, 1);
        due("one wheel to, one fro", x.open(), 5);
        due("would again", x.would(2, 1), 6);
        due("and nothing was done", x.would(2, 1), 6);
    }

    private static void harmOfWhatWasNotOpen() {
        says("HARMS of THINGS that are OPEN behind a PULL and were not ahead of it, together");
        OneBell x = village(times(5, "thing 0 0 1 9;") + "errand 0 1;");
        due("five together", x.order(-1), 45);
        x.pull(0, 1);
        due("open already", x.order(-1), 0);
        x.pull(0, 0);
        due("shut again", x.order(-1), 45);
        OneBell wheel = village("thing 3 0 1 7;errand 0 1;errand 0 1;errand 0 1;");
        due("to, fro, to", wheel.order(-1), 14);
        wheel.pull(0, 1);
        due("fro, to, fro", wheel.order(-1), 7);
    }

    // ---- errands

    private static void errandsComeAsNumbers0To4() {
        says("ERRANDS 0 .. 4, as they come");
        OneBell x = village(ONE);
        for (int e = 0; e <= 4; e++) due("errand", x.errand(0, 3 * e), e);
        due("a 6th", x.errand(0, 0), OneBell.FULL);
        for (int e = 0; e <= 4; e++) due("rings " + e + " times", x.heard(e), 1 << e);
        due("the last goes", x.drop(), 4);
        due("there is room for it", x.errand(0, 18), 4);
        due("it rings 6 times", x.heard(6), 16);
        due("and the old one is gone", x.heard(4), 0);
        for (int left = 4; left >= 0; left--) due("drop", x.drop(), left);
        due("none is left", x.drop(), OneBell.NO);
    }

    private static void orderOfLikeOnesTheFirst() {
        says("ORDER: the least HARM DONE in all; of like ones the first order (lesser numbers ahead)");
        OneBell x = village("thing 1 0 1 3;" + times(5, "errand 0 1;"));
        due("harm", x.order(-1), 3);
        for (int i = 0; i <= 4; i++) due("all alike", x.order(i), i);
        due("no sixth", x.order(5), -5);
        // A sluice, open now, of harm 9: errand 0 shuts it, 1 and 2 open it: 0 goes last.
        OneBell last = village("thing 4 0 1 9;errand 0 4;errand 0 1;errand 0 2;");
        last.pull(0, 1);
        due("harm", last.order(-1), 0);
        due("first", last.order(0), 1);
        due("second", last.order(1), 2);
        due("third", last.order(2), 0);
        due("no fourth", last.order(3), -5);
        last.pull(0, 4);
        due("from now, shut: 9 once, 0 first", last.order(-1), 9);
        due("first", last.order(0), 0);
        due("second", last.order(1), 1);
    }

    private static void orderOfNotSoMany() {
        says("ORDER: the HARM (i = NONE), the i-th (0 on). -5: not so many. BAD: -10");
        OneBell x = village("thing 1 0 1 3;");
        for (int errands = 0; errands <= 5; errands++) {
            due("the harm of " + errands, x.order(-1), errands == 0 ? 0 : 3);
            if (errands > 0) due("the last of " + errands, x.order(errands - 1), errands - 1);
            due("one more than " + errands, x.order(errands), -5);
            due("far on", x.order(MOST), -5);
            due("below NONE", x.order(-2), -10);
            x.errand(0, 1);
        }
        due("-5 is not refused, -10 is", x.status(0), 6);
        due("a 6th errand", x.status(2), 1);
    }

    private static void codeOfNone() {
        says("CODE: the fewest ERRANDS behind which just these are OPEN, from now; none");
        OneBell x = village("thing 1 9 1 0;thing 1 9 1 0;");
        due("as it is, without errands", x.code(0, -1), 0);
        due("its first", x.code(0, 0), -5);
        due("no errand leads there", x.code(1, -1), OneBell.NONE);
        x.errand(0, 1);
        due("just these: one", x.code(1, -1), 1);
        due("just these: not the other one", x.code(2, -1), OneBell.NONE);
        due("just these: not both", x.code(3, -1), OneBell.NONE);
        x.pull(1, 1);
        due("from now: the other one is open", x.code(2, -1), 0);
        due("both", x.code(3, -1), 1);
        due("a latch does not shut", x.code(0, -1), OneBell.NONE);
        statusIs(x, 0, 0, 0);
    }

    private static void codeOfLikeOnesTheFirst() {
        says("CODE (any as often as one likes); of like ones the first row");
        OneBell x = village(times(5, "thing 3 9 1 0;") + "errand 4 1;errand 3 1;errand 2 1;errand 1 1;errand 0 1;");
        for (int set = 0; set < 32; set++) {
            due("as many as are open", x.code(set, -1), Integer.bitCount(set));
            due("one more", x.code(set, Integer.bitCount(set)), -5);
        }
        for (int i = 0; i <= 4; i++) due("by rising numbers", x.code(31, i), i);
        due("16 and 1: errands 0 and 4", x.code(17, 0), 0);
        due("16 and 1: errands 0 and 4", x.code(17, 1), 4);
        // The errand turns both wheels, or, by less, the second alone.
        OneBell twice = village("thing 3 0 1 0;thing 3 0 2 0;errand 0 1;errand 1 1;");
        due("two ways to the second", twice.code(2, -1), OneBell.NONE);
        due("the same errand twice is none", twice.code(0, -1), 0);
        OneBell again = village("thing 1 0 1 0;thing 3 0 1 0;errand 0 1;");
        due("the latch without the wheel: twice", again.code(1, -1), 2);
        due("first", again.code(1, 0), 0);
        due("second", again.code(1, 1), 0);
        due("third", again.code(1, 2), -5);
    }

    private static void whoDoneByRisingNumbers() {
        says("WHO: sets of ERRANDS (bits), done by rising numbers from now, behind which just a set is OPEN");
        OneBell x = village(times(5, "thing 1 9 1 0;"));
        due("no errands: the empty set", x.who(0, 0), 1);
        due("its bits", x.who(0, 1), 0);
        due("no errands: none", x.who(1, 0), 0);
        due("no errands: none", x.who(1, 1), OneBell.NONE);
        for (int e = 0; e <= 4; e++) x.errand(e, 1);
        for (int set = 0; set < 32; set++) {
            due("just one", x.who(set, 0), 1);
            due("just these", x.who(set, 1), set);
        }
        x.pull(4, 1);
        due("with it or without it", x.who(31, 0), 2);
        due("without it", x.who(31, 1), 15);
        due("it is open now", x.who(15, 0), 0);
        OneBell idle = village(ONE + times(5, "errand 0 0;"));
        due("all of 32", idle.who(0, 0), 32);
        due("the empty one", idle.who(0, 1), 0);
        // A door: errand 0 opens it, errand 1 shuts it.
        OneBell door = village(ONE + "errand 0 1;errand 0 0;");
        due("errand 0 alone", door.who(1, 0), 1);
        due("its bits", door.who(1, 1), 1);
        due("none, 1, 0 and 1", door.who(0, 0), 3);
    }

    private static void heardAsNow() {
        says("HEARD: ERRANDS (bits) that RING just r times, ROPES, DAMP as now");
        due("no errands", new OneBell().heard(0), 0);
        OneBell x = village("thing 0 9 1 0;errand 0 8;errand 0 11;errand 0 12;errand 0 14;errand 0 20;");
        due("0: 0 and 2 inches", x.heard(0), 3);
        due("1: 3 and 5 inches", x.heard(1), 12);
        due("2", x.heard(2), 0);
        due("3: 11 inches", x.heard(3), 16);
        x.damp(9);
        due("6: 20 inches", x.heard(6), 16);
        due("7", x.heard(7), 0);
        due("4: 12 and 14 inches", x.heard(4), 12);
        x.rope(0, false);
        due("all of them are silent", x.heard(0), 31);
        due("1", x.heard(1), 0);
        due("below 0", x.heard(-1), OneBell.BAD);
        due("the least", x.heard(LEAST), OneBell.BAD);
        due("the most", x.heard(MOST), 0);
    }

    private static void cutsOfWholeOnes() {
        says("CUTS: the fewest ROPES (bits; of whole ones) to be cut; none");
        due("no things", new OneBell().cuts(0), 0);
        OneBell x = village(times(5, ONE));
        for (int set = 0; set < 32; set++) due("no errands", x.cuts(set), 0);
        x.errand(0, 1);
        for (int set = 0; set < 32; set++) due("pulled itself or not", x.cuts(set), cutsWhere0IsPulled(set));
        x.rope(0, false);
        due("its rope is cut", x.cuts(30), 0);
        due("its rope is cut, but it opens", x.cuts(31), OneBell.NONE);
        x.rope(0, true);
        x.rope(1, false);
        due("1 is cut already", x.cuts(2), 0);
        due("2 is not: the puller's has the least bits", x.cuts(6), 1);
        x.pull(0, 1);
        due("what is open does not become so", x.cuts(29), 0);
        due("1 is shut and cut", x.cuts(31), 0);
        x.rope(1, true);
        due("1 is shut and would open", x.cuts(31), 1);
    }

    private static int cutsWhere0IsPulled(int set) {
        if ((set & 1) != 0) return OneBell.NONE;
        return set == 0 ? 0 : 1;
    }

    private static void cutsOfLikeOnesTheLeast() {
        says("CUTS: of like ones the least bits");
        OneBell x = village("thing 0 0 9 0;thing 0 0 1 0;thing 0 0 9 0;errand 0 8;");
        due("0's or 1's", x.cuts(2), 1);
        x.errand(2, 8);
        due("1's, or 0's and 2's", x.cuts(2), 2);
        OneBell back = village("thing 0 0 1 0;thing 0 0 9 0;errand 1 8;");
        due("0's or 1's", back.cuts(1), 1);
        OneBell two = village("thing 0 0 9 0;thing 0 0 1 0;thing 0 0 1 0;thing 0 0 9 0;errand 0 8;errand 3 8;");
        due("0's and 3's, or 1's and 2's", two.cuts(6), 6);
        OneBell four = village("thing 0 0 1 0;thing 0 0 9 0;thing 0 0 9 0;thing 0 0 1 0;errand 1 8;errand 2 8;");
        due("1's and 2's, or 0's and 3's", four.cuts(9), 6);
    }

    // ---- slacks

    private static void rulesComeAsNumbers0To3() {
        says("RULES 0 .. 3, as they come");
        OneBell x = village(ONE);
        for (int r = 0; r <= 3; r++) due("rule", x.rule(0, r, 0), r);
        due("a 5th", x.rule(0, 0, 0), OneBell.FULL);
        due("count(3)", x.count(3), 4);
        due("there were", x.free(), 4);
        due("there were", x.free(), 0);
        due("rule", x.rule(0, 0, 0), 0);
        for (int things = 1; things <= 5; things++) {
            OneBell y = village(times(things, ONE));
            due("all of " + things, y.rule(0, 1, (1 << things) - 1), 0);
            due("none", y.rule(things - 1, 1, 0), 1);
            due("one more than there are", y.rule(0, 1, 1 << things), OneBell.BAD);
            due("a thing more", y.rule(things, 1, 0), OneBell.BAD);
            due("below none", y.rule(0, 1, -1), OneBell.BAD);
        }
    }

    private static void rulesAreForWholeRopesNoDampNothingOpen() {
        says("with all ROPES whole, no DAMP, nothing OPEN, a PULL of t by n is to OPEN just a SET");
        OneBell x = village("thing 1 0 1 0;thing 3 0 1 0;thing 1 0 1 0;rule 0 4 3;");
        for (int round = 0; round < 4; round++) {
            due("0's", x.slack(0), 0);
            due("1's", x.slack(1), 0);
            due("2's", x.slack(2), 4);
            due("none is to be given up", x.giveUp(), 0);
            if (round == 0) x.pull(2, 9);
            if (round == 1) x.damp(9);
            if (round == 2) x.rope(0, false);
        }
        x.rule(0, 4, 1);
        due("just a set", x.slack(0), OneBell.NONE);
        due("one of the two", x.giveUp(), 1);
    }

    private static void slacksAre0To9Each() {
        says("SLACKS (0 .. 9 each)");
        OneBell x = village("thing 0 5 1 0;thing 0 5 1 0;");
        due("no rules", x.slack(0), 0);
        due("no rules", x.slack(1), 0);
        for (int n = 1; n <= 20; n++) {
            x.free();
            x.rule(0, n, 1);
            // The two slacks are n together at least.
            due("0's by " + n, x.slack(0), n > 18 ? OneBell.NONE : Math.max(0, n - 9));
            due("1's by " + n, x.slack(1), n > 18 ? OneBell.NONE : Math.min(n, 9));
            due("given up", x.giveUp(), n > 18 ? 1 : 0);
        }
        x.free();
        x.rule(0, 20, 3);
        due("the least", x.slack(0), 0);
        due("the least", x.slack(1), 0);
        due("their own slacks stay", x.moves(0, 20, 1), 10);
    }

    private static void slacksAreTheFirstRow() {
        says("the first row of SLACKS (THING 0's the least it can be, then 1's, ..)");
        // 1's and 2's are 12 together at least, 0's and 2's are 4 at least (0 may move by 8, its stop is 9).
        OneBell x = village("thing 0 9 9 0;thing 0 9 1 0;thing 0 9 1 0;rule 1 5 2;rule 2 12 4;");
        due("0's", x.slack(0), 0);
        due("1's", x.slack(1), 3);
        due("2's", x.slack(2), 9);
        readInto(x, "thing 0 9 1 0;thing 0 9 1 0;thing 0 9 1 0;rule 0 12 1;");
        due("0's", x.slack(0), 3);
        due("1's", x.slack(1), 9);
        due("2's", x.slack(2), 9);
        readInto(x, "thing 0 9 1 0;thing 0 9 1 0;thing 0 9 1 0;rule 0 12 3;");
        due("0's: 2 has to have 9 with it", x.slack(0), 3);
        due("1's: the least", x.slack(1), 0);
        due("2's", x.slack(2), 9);
        readInto(x, "thing 0 9 1 0;thing 0 9 1 0;thing 0 9 1 0;rule 1 12 3;");
        due("0's", x.slack(0), 0);
        due("1's", x.slack(1), 3);
        due("2's", x.slack(2), 9);
    }

    private static void slacksOfThreeThatHangTogether() {
        says("the first row of SLACKS by which all RULES are so: of a THING; none");
        // Stops 2: each two of the three slacks are 8 together; any one slack alone may still be 0 to 8.
        OneBell x = village("thing 0 0 2 0;thing 0 0 2 0;thing 0 0 2 0;rule 0 10 7;rule 0 9 1;rule 1 10 7;rule 1 9 2;");
        for (int t = 0; t <= 2; t++) due("4 each", x.slack(t), 4);
        due("none is given up", x.giveUp(), 0);
        // Stops 1: each two are 9 together, which three numbers can't be.
        readInto(x, "thing 0 0 1 0;thing 0 0 1 0;thing 0 0 1 0;rule 0 10 7;rule 0 9 1;rule 1 10 7;rule 1 9 2;");
        for (int t = 0; t <= 2; t++) due("none", x.slack(t), OneBell.NONE);
        due("without the first: 5, 4, 5", x.giveUp(), 1);
        readInto(x, "thing 0 0 1 0;thing 0 0 1 0;thing 0 0 1 0;rule 0 9 1;rule 1 10 7;rule 1 9 2;");
        due("0's", x.slack(0), 5);
        due("1's", x.slack(1), 4);
        due("2's", x.slack(2), 5);
    }

    private static void ruleOfThePulledOne() {
        says("a PULL of t by n is to OPEN just a SET");
        int[][] opens = {{0, 1, 1, 1, 1}, {0, 1, 1, 1, 1}, {0, 0, 0, 0, 0}, {0, 1, 1, 1, 1}, {0, 1, 1, 0, 0}};
        int[] more = {-1, 0, 2, 3, 11};
        for (int kind = DOOR; kind <= SLUICE; kind++) {
            for (int i = 0; i < more.length; i++) {
                OneBell x = village("thing " + kind + " 9 9 0;");
                x.rule(0, 9 + more[i], 1);
                due("kind " + kind + " opens by 9 and " + more[i], x.slack(0), opens[kind][i] == 1 ? 0 : OneBell.NONE);
                due("kind " + kind + " opens by 9 and " + more[i], x.giveUp(), 1 - opens[kind][i]);
                x.free();
                x.rule(0, 9 + more[i], 0);
                due("kind " + kind + " stays by 9 and " + more[i], x.slack(0), opens[kind][i] == 0 ? 0 : OneBell.NONE);
            }
        }
    }

    private static void giveUpOfLikeOnesTheLeast() {
        says("GIVE UP: the fewest RULES (bits, of like ones the least bits) without which there is such a row");
        due("no rules", new OneBell().giveUp(), 0);
        OneBell x = village("thing 0 0 1 0;thing 0 0 1 0;rule 0 1 3;rule 0 1 1;");
        due("one of two", x.giveUp(), 1);
        x.rule(0, 1, 1);
        due("the first, against two", x.giveUp(), 1);
        readInto(x, "thing 0 0 1 0;thing 0 0 1 0;rule 0 1 3;rule 0 1 3;rule 0 1 1;rule 0 1 1;");
        due("two of four", x.giveUp(), 3);
        readInto(x, "thing 0 0 1 0;thing 0 0 1 0;rule 0 1 3;rule 0 1 1;rule 0 1 3;rule 0 1 3;");
        due("the one against three", x.giveUp(), 2);
        readInto(x, "thing 2 0 1 0;" + times(4, "rule 0 1 1;"));
        due("a lid is not opened: all", x.giveUp(), 15);
        x.free();
        x.rule(0, 1, 0);
        due("it stays shut", x.giveUp(), 0);
    }

    private static void shareFromNothingOpenDampAsNow() {
        says("SHARE: HARM DONE by all ERRANDS together, each alone from nothing OPEN (DAMP as now)");
        OneBell x = village("thing 1 0 1 2;thing 1 1 1 6;errand 0 1;errand 0 1;");
        x.share(1);
        due("slack 1: none", x.part(0), 0);
        due("slack 1: none", x.part(1), 1);
        x.damp(1);
        x.share(1);
        due("half of 6, twice", x.part(0), 6);
        x.pull(0, 1);
        due("all open", x.open(), 3);
        x.share(1);
        due("from nothing open", x.part(0), 6);
        x.share(0);
        due("the puller's half; its own harm is done anyhow", x.part(0), 6);
        due("nothing was done", x.open(), 3);
        OneBell wheel = village("thing 3 0 1 8;thing 0 0 1 0;errand 1 1;errand 1 2;");
        wheel.pull(0, 1);
        wheel.share(0);
        due("a wheel turns once by each: half of 8, twice", wheel.part(0), 8);
    }

    private static void shareCutOnesAsWhole() {
        says("over all orders in which the ROPES of all THINGS (cut ones as whole) come");
        OneBell x = village("thing 0 0 1 0;thing 0 0 1 9;cut 0;cut 1;errand 0 1;");
        due("share", x.share(0), 1);
        due("above", x.part(0), 9);
        due("below", x.part(1), 2);
        due("they are cut", x.count(1), 0);
    }

    // ---- what is kept

    private static void undo10AtMost() {
        says("UNDO: OPEN as ahead of the last PULL (10 at most)");
        OneBell x = village("thing 3 0 1 0;");
        due("none yet", x.undo(), OneBell.NO);
        for (int pulls = 1; pulls <= 9; pulls++) x.pull(0, 1);
        due("9", x.count(4), 9);
        x.pull(0, 1);
        due("10", x.count(4), 10);
        x.pull(0, 1);
        due("10", x.count(4), 10);
        due("11 turns", x.open(), 1);
        for (int left = 9; left >= 0; left--) {
            due("undo", x.undo(), 1);
            due("left", x.count(4), left);
            due("turns", x.open(), (left + 1) % 2);
        }
        due("the first of 11 is not undone", x.undo(), OneBell.NO);
        due("open", x.open(), 1);
        statusIs(x, 0, 2, 0);
    }

    private static void undoOfOpenAlone() {
        says("UNDO: OPEN as ahead of the last PULL");
        OneBell x = village("thing 1 0 1 0;thing 1 9 9 0;");
        x.pull(0, 1);
        x.both(0, 0, 1, 9);
        x.pull(0, 0);
        due("three pulls", x.count(4), 3);
        x.rope(0, false);
        x.damp(3);
        x.thing(DOOR, 0, 1, 0);
        x.errand(0, 1);
        x.rule(0, 1, 0);
        typeText(x, "ab");
        due("a pull that did nothing", x.undo(), 1);
        due("open", x.open(), 3);
        due("two at once", x.undo(), 1);
        due("open", x.open(), 1);
        countsAre(x, 3, 2, 1, 1, 1, 2, 3);
        due("the first", x.undo(), 1);
        due("open", x.open(), 0);
        due("no more", x.undo(), OneBell.NO);
        x.pull(0, 21);
        x.would(0, 1);
        due("neither a refused one nor what would be", x.undo(), OneBell.NO);
    }

    private static void imagesAre0And1() {
        says("IMAGES 0, 1");
        OneBell x = new OneBell();
        for (int i : new int[] {-1, 2, LEAST, MOST}) {
            due("image " + i, x.image(i), OneBell.BAD);
            due("from " + i, x.from(i), OneBell.BAD);
        }
        due("none was kept", x.from(0), OneBell.NO);
        due("none was kept", x.from(1), OneBell.NO);
        due("an empty village", x.image(1), 1);
        due("0 was not", x.from(0), OneBell.NO);
        x.thing(DOOR, 0, 1, 0);
        due("one thing", x.image(0), 1);
        x.thing(DOOR, 0, 1, 0);
        due("from 1", x.from(1), 1);
        countsAre(x, 0);
        due("from 0", x.from(0), 1);
        countsAre(x, 1);
        due("kept again", x.image(1), 1);
        x.thing(DOOR, 0, 1, 0);
        due("from 1", x.from(1), 1);
        countsAre(x, 1);
    }

    private static void imagesKeepAllButThese() {
        says("IMAGES keep all but them, THE TEXT, THE FRACTION and STATUS");
        OneBell x = village("thing 1 0 1 3;thing 0 2 4 8;cut 1;damp 5;errand 1 3;errand 0 2;rule 1 7 2;");
        x.pull(0, 1);
        typeText(x, "damp");
        x.image(0);
        long kept = x.digest();
        readInto(x, ONE);
        due("image 1", x.image(1), 1);
        typeText(x, "damp 7");
        x.undo();
        due("from 0", x.from(0), 1);
        due("the text goes on", x.type(';', 1), 7);
        due("status goes on", x.status(1), 1);
        due("the text is not the image's", x.clear(), 7);
        typeText(x, "damp");
        due("all else is as it was", x.digest(), kept);
        x.clear();
        readInto(x, "thing 0 0 1 0;thing 0 0 1 1;errand 0 1;");
        x.share(1);
        due("half of 1", x.part(1), 2);
        x.from(1);
        due("the fraction stays", x.part(1), 2);
        due("the other image is still there", x.from(0), 1);
        countsAre(x, 2, 1, 2, 1, 1, 0, 5);
        due("and this one, too", x.from(1), 1);
        countsAre(x, 1, 1, 0, 0, 0, 0, 0);
    }

    private static void imagesKeepWhatMayBeUndone() {
        says("what may be undone they keep");
        OneBell x = village("thing 3 0 1 0;");
        for (int pulls = 0; pulls < 12; pulls++) x.pull(0, 1);
        x.image(0);
        for (int left = 9; left >= 0; left--) x.undo();
        x.image(1);
        x.pull(0, 1);
        x.from(0);
        due("all ten", x.count(4), 10);
        for (int left = 9; left >= 0; left--) {
            due("undo", x.undo(), 1);
            due("turned back", x.open(), left % 2);
        }
        due("no eleventh", x.undo(), OneBell.NO);
        x.pull(0, 1);
        x.from(1);
        due("none there", x.undo(), OneBell.NO);
        x.from(0);
        due("the image itself was not undone", x.count(4), 10);
    }

    private static void imagesKeepTheStatesToGoBackTo() {
        says("what may be undone they keep; it goes on from one");
        OneBell x = village("thing 0 9 1 0;thing 0 9 1 0;thing 0 9 1 0;");
        for (int t = 0; t <= 2; t++) x.pull(t, 1);
        x.image(0);
        for (int t = 2; t >= 0; t--) x.pull(t, 0);
        for (int t = 2; t >= 0; t--) x.pull(t, 1);
        x.image(1);
        x.from(0);
        int[] first = {4, 2, 1, 0};
        for (int left = 3; left >= 0; left--) {
            due("open", x.open(), first[3 - left]);
            due("undo", x.undo(), left > 0 ? 1 : OneBell.NO);
        }
        x.from(1);
        int[] second = {1, 2, 4, 0, 0, 0, 4, 2, 1, 0};
        for (int left = 9; left >= 0; left--) {
            due("open", x.open(), second[9 - left]);
            due("undo", x.undo(), left > 0 ? 1 : OneBell.NO);
        }
    }

    private static void statusCountsWhatIsToldSo() {
        says("STATUS: how many calls were refused as BAD, NO, FULL");
        OneBell x = new OneBell();
        statusIs(x, 0, 0, 0);
        x.damp(10);
        statusIs(x, 1, 0, 0);
        x.undo();
        statusIs(x, 1, 1, 0);
        for (int t = 0; t <= 5; t++) x.thing(DOOR, 0, 1, 0);
        statusIs(x, 1, 1, 1);
        x.order(0);
        x.code(1, 0);
        x.code(0, 0);
        x.who(1, 1);
        statusIs(x, 1, 1, 1);
        typeText(x, "damp 10;");
        due("a fault is none of these", x.read(), -15);
        statusIs(x, 1, 1, 1);
    }

    private static void fractionIs0By1AtFirst() {
        says("THE FRACTION is 0 by 1 at first");
        OneBell x = new OneBell();
        due("above", x.part(0), 0);
        due("below", x.part(1), 1);
        x.share(0);
        due("a refused share leaves it", x.part(0), 0);
        due("a refused share leaves it", x.part(1), 1);
    }

    private static void fractionInLowestTerms() {
        says("lowest terms, below above 0");
        int[][] halves = {{0, 1}, {1, 2}, {1, 1}, {3, 2}, {2, 1}, {5, 2}, {3, 1}, {7, 2}, {4, 1}, {9, 2}};
        for (int things = 2; things <= 5; things++) {
            for (int harm = 0; harm <= 9; harm++) {
                OneBell x = village("thing 0 0 1 9;thing 0 0 1 " + harm + ";" + times(things - 2, ONE) + "errand 0 1;");
                x.share(1);
                due("half of " + harm + ", above", x.part(0), halves[harm][0]);
                due("half of " + harm + ", below", x.part(1), halves[harm][1]);
            }
        }
        OneBell most = village(times(5, "thing 0 0 1 9;") + times(5, "errand 0 20;"));
        most.share(0);
        due("half of 4 nines, 5 times", most.part(0), 90);
        due("below", most.part(1), 1);
        most.share(4);
        due("half of a nine, 5 times", most.part(0), 45);
        due("below", most.part(1), 2);
        OneBell alone = village("thing 0 0 1 9;errand 0 1;");
        alone.share(0);
        due("it opens anyhow", alone.part(0), 0);
        due("below", alone.part(1), 1);
    }

    private static void theFirstOfBadNoFull() {
        says("Refused, changing nothing but STATUS, the first of: BAD; NO; FULL");
        OneBell x = village(times(5, ONE) + times(5, "errand 0 0;") + times(4, "rule 0 0 0;"));
        typeText(x, times(200, "x"));
        due("a wrong thing where none has room", x.thing(5, 0, 1, 0), OneBell.BAD);
        due("a wrong errand", x.errand(5, 0), OneBell.BAD);
        due("a wrong errand", x.errand(0, 21), OneBell.BAD);
        due("a wrong rule", x.rule(5, 0, 0), OneBell.BAD);
        due("a wrong rule", x.rule(0, 21, 0), OneBell.BAD);
        due("a wrong rule", x.rule(0, 0, 32), OneBell.BAD);
        due("wrong bytes", x.type(0, 0), OneBell.BAD);
        due("wrong bytes", x.type(0, 9), OneBell.BAD);
        statusIs(x, 8, 0, 0);
        due("two numbers are wrong: one call", x.thing(5, 10, 0, 10), OneBell.BAD);
        statusIs(x, 9, 0, 0);
        due("a thing", x.thing(0, 0, 1, 0), OneBell.FULL);
        due("an errand", x.errand(0, 0), OneBell.FULL);
        due("a rule", x.rule(0, 0, 0), OneBell.FULL);
        due("bytes", x.type(0, 1), OneBell.FULL);
        statusIs(x, 9, 0, 4);
    }

    private static void others() {
        says("where others are told they count as these");
        OneBell x = village(ONE);
        long[] answers = {x.order(-2), x.code(2, 0), x.code(0, -2), x.who(2, 0), x.who(0, 2), x.cuts(2), x.slack(1)};
        for (long answer : answers) due("BAD: -10", answer, -10);
        statusIs(x, 7, 0, 0);
        due("BAD: -1000", x.part(2), -1000);
        statusIs(x, 8, 0, 0);
        due("another what", x.status(3), -1);
        statusIs(x, 9, 0, 0);
    }

    private static void fiveHundredAndTwelveCalls() {
        says("An object is used for at most 512 calls");
        OneBell x = new OneBell();
        for (int i = 0; i < 511; i++) x.undo();
        due("the 512th call", x.status(1), 511);
        OneBell y = village("thing 3 0 1 0;");
        for (int i = 0; i < 480; i++) y.pull(0, 20);
        due("ten may be undone", y.count(4), 10);
        due("480 turns", y.open(), 0);
    }
}
