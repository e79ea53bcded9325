/**
 * The edges of THE TEXT and of the VILLAGE that is read from it: its bytes, its tokens, each fault and its place, a
 * method for each sentence. Where a text has a fault, the answer is -10 less the fault's place.
 */
public final class TextTest extends Due {
    private static final String ONE = "thing 0 0 1 0;";
    private static final String FIVE = times(5, ONE);

    public static void main(String[] args) {
        typeTakes1To8Bytes();
        typeTheHighestFirst();
        textOf200BytesAtMost();
        aTextOf200BytesIsRead();
        clearOfAnEmptyOne();
        tokensByEveryByte();
        blanksBetween();
        oneOrTwoFigures();
        aThirdFiguresNumber();
        eachItemIsEnded();
        anEmptyOneHasNoFault();
        endsTooEarly();
        aWordThatIsNone();
        aSixthThing();
        aSixthErrand();
        aFifthRule();
        aNumberNotAsTold();
        aThingThatIsNotThereYet();
        oneCutAgain();
        aSetBeyondThingsThere();
        aByteThatBeginsNone();
        theFirstFault();
        whatIsReadTakesThePlace();
        aFaultLeavesAll();
        end("texts are read as told, to the edge");
    }

    private static void faultAt(int place, String text) {
        due("read of '" + text + "'", readOf(text), -10 - place);
    }

    private static void isRead(int items, String text) {
        due("read of '" + text + "'", readOf(text), items);
    }

    // ---- the bytes

    private static void typeTakes1To8Bytes() {
        says("The lowest n (1 .. 8) bytes of v come to THE TEXT: how many it has");
        OneBell x = new OneBell();
        for (int n = -2; n <= 20; n++) {
            int had = x.count(5);
            boolean asTold = n >= 1 && n <= 8;
            due("type of " + n, x.type(-1L, n), asTold ? had + n : OneBell.BAD);
            due("count(5)", x.count(5), asTold ? had + n : had);
        }
        for (int n : new int[] {LEAST, LEAST + 1, -256, 256, 257, MOST}) due("type of " + n, x.type(0, n), OneBell.BAD);
        due("1 to 8", x.clear(), 36);
    }

    private static void typeTheHighestFirst() {
        says("the highest of them first");
        long damp7 = 0x64616d70_20373bL;
        OneBell x = new OneBell();
        x.type(damp7, 7);
        due("damp 7;", x.read(), 1);
        due("count(6)", x.count(6), 7);
        x.clear();
        x.type(damp7 | 0xff00000000000000L, 7);
        due("the byte above them is left out", x.read(), 1);
        x.clear();
        x.type(damp7 | 0xff00000000000000L, 8);
        due("8 bytes, the first is 255", x.read(), -10);
        x.clear();
        x.type(damp7 << 8 | ' ', 8);
        due("8 bytes, the last is a blank", x.read(), 1);
        x.clear();
        x.type(damp7 >> 16, 5);
        x.type(damp7 | Long.MIN_VALUE, 2);
        due("5 and 2", x.read(), 1);
        x.clear();
        for (int shift = 48; shift >= 0; shift -= 8) x.type(damp7 >> shift, 1);
        due("1 by 1, of the lowest byte each", x.read(), 1);
    }

    private static void textOf200BytesAtMost() {
        says("a TEXT (200 bytes at most)");
        for (int n = 1; n <= 8; n++) {
            OneBell x = new OneBell();
            for (int i = 0; i < 200 / n; i++) due("type", x.type(-1L, n), (i + 1) * n);
            int room = 200 % n;
            due("one more than there is room for", x.type(-1L, room + 1), OneBell.FULL);
            due("8 more", x.type(-1L, 8), OneBell.FULL);
            due("as it was", x.count(5), 200 - room);
            if (room > 0) due("just as many as there is room for", x.type(-1L, room), 200);
            due("a 201st", x.type(-1L, 1), OneBell.FULL);
            statusIs(x, 0, 0, 3);
            due("clear", x.clear(), 200);
            due("room again", x.type(-1L, 8), 8);
        }
    }

    private static void aTextOf200BytesIsRead() {
        says("THE VILLAGE is a TEXT (200 bytes at most) of ITEMS");
        isRead(28, times(28, "damp 3;") + "    ");
        isRead(28, "    " + times(28, "damp 3;"));
        isRead(14, FIVE + times(5, "errand 4 20;") + times(4, "rule 4 20 31;") + times(18, " "));
        faultAt(200, times(28, "damp 3;") + "damp");
        faultAt(196, times(28, "damp 3;") + "dam ");
        faultAt(199, times(28, "damp 3;") + "   x");
        faultAt(199, times(28, "damp 3;") + "   ;");
        faultAt(200, times(27, "damp 3;") + "   damp 3  ");
        isRead(0, times(200, " "));
        faultAt(0, times(200, ";"));
        faultAt(0, times(200, "a"));
        faultAt(0, times(200, "1"));
        OneBell x = new OneBell();
        typeText(x, times(28, "damp 3;") + "damp");
        x.type(' ' << 16 | '4' << 8 | ';', 3);
        due("a refused type leaves the text as it was", x.read(), -210);
    }

    private static void clearOfAnEmptyOne() {
        says("THE TEXT is empty: how many it had");
        OneBell x = new OneBell();
        due("a new one", x.clear(), 0);
        x.type('x', 1);
        due("one", x.clear(), 1);
        due("none", x.clear(), 0);
        due("count(5)", x.count(5), 0);
        due("an empty one is read", x.read(), 0);
        typeText(x, "damp 3;damp 4;");
        x.clear();
        typeText(x, "damp 5");
        due("nothing of the old one is read", x.read(), -16);
    }

    // ---- the tokens

    /** Each byte behind a number, behind a word, and ahead of an item. */
    private static void tokensByEveryByte() {
        says("TOKENS: words of letters a .. z, figures, ; ; blanks (32) between");
        for (int b = 0; b <= 255; b++) {
            char c = (char) b;
            due("byte " + b + " behind damp 1", readOf("damp 1" + c), behindANumber(c));
            due("byte " + b + " between damp and 1;", readOf("damp" + c + "1;"), behindAWord(c));
            due("byte " + b + " ahead of damp 1;", readOf(c + "damp 1;"), c == ' ' ? 1 : -10);
            due("byte " + b + " alone", readOf("" + c), c == ' ' ? 0 : -10);
            due("byte " + b + " behind an item", readOf("damp 1;" + c), c == ' ' ? 1 : -17);
        }
    }

    private static int behindANumber(char c) {
        if (c == ';') return 1;
        if (c == ' ') return -17;
        return c >= '0' && c <= '9' ? -15 : -16;
    }

    private static int behindAWord(char c) {
        if (c == ' ' || c == '0') return 1;
        return c >= 'a' && c <= 'z' ? -10 : -14;
    }

    private static void blanksBetween() {
        says("blanks (32) between");
        isRead(2, "thing 0 0 1 0 ; cut 0 ;");
        isRead(2, "   thing   0   0   1   0   ;   cut   0   ;   ");
        isRead(5, "thing0 0 1 0;cut0;damp0;errand0 0;rule0 0 0;");
        faultAt(0, "th ing 0 0 1 0;");
        faultAt(7, "damp 0 9;");
        faultAt(10, "thing 0 0 00 0;");
        faultAt(12, "thing 0 0 01;");
    }

    private static void oneOrTwoFigures() {
        says("figures (1 or 2 are one number)");
        isRead(1, "damp 0;");
        isRead(1, "damp 00;");
        isRead(1, "damp 9;");
        isRead(1, "damp 09;");
        isRead(2, "thing 04 09 09 09;errand 00 20;");
        isRead(2, "thing 04 09 01 00;errand 0 02;");
        OneBell x = village("thing 0 00 01 09;damp 08;errand 00 18;");
        countsAre(x, 1, 1, 1, 0, 0, 0, 8);
        due("18 rings 6 times", x.heard(6), 1);
        due("harm 9", x.order(-1), 9);
        faultAt(5, "damp 10;");
        faultAt(5, "damp 99;");
    }

    private static void aThirdFiguresNumber() {
        says("FAULT: a third figure's number");
        faultAt(5, "damp 000;");
        faultAt(5, "damp 001;");
        faultAt(5, "damp 0000;");
        faultAt(5, "damp 111111;");
        faultAt(5, "damp 009");
        faultAt(6, "thing 000 0 1 0;");
        faultAt(8, "thing 0 009 1 0;");
        faultAt(10, "thing 0 0 001 0;");
        faultAt(12, "thing 0 0 1 000;");
        faultAt(21, ONE + "errand 000 1;");
        faultAt(23, ONE + "errand 0 020;");
        faultAt(23, ONE + "rule 0 1 001;");
        faultAt(0, "123 damp 1;");
    }

    private static void eachItemIsEnded() {
        says("ITEMS, each ended by ;");
        faultAt(7, "damp 1 damp 2;");
        faultAt(7, "damp 1;;");
        faultAt(0, ";");
        faultAt(0, ";damp 1;");
        faultAt(14, "thing 0 0 1 0 0;");
        faultAt(11, "thing 0 0 1;");
        faultAt(9, "thing 0 0;");
        faultAt(5, "thing;");
        faultAt(4, "damp;");
        faultAt(20, ONE + "cut 0 0;");
        faultAt(17, ONE + "cut;");
        faultAt(22, ONE + "errand 0;");
        faultAt(25, ONE + "errand 0 1 1;");
        faultAt(22, ONE + "rule 0 1;");
        faultAt(25, ONE + "rule 0 1 1 1;");
    }

    // ---- the faults

    private static void anEmptyOneHasNoFault() {
        says("(an empty one: none)");
        isRead(0, "");
        OneBell x = village(FIVE + "cut 0;damp 5;errand 0 1;rule 0 1 1;");
        x.pull(0, 1);
        due("an empty one", x.read(), 0);
        countsAre(x, 0, 0, 0, 0, 0, 0, 0);
        due("open", x.open(), 0);
        statusIs(x, 0, 0, 0);
    }

    /** Every beginning of a text: a word cut short is none, a number cut short is one, else it ends too early. */
    private static void endsTooEarly() {
        says("FAULT: the TEXT's length, if it ends too early");
        String[] tokens = {"thing", " ", "4", " ", "9", " ", "1", " ", "9", ";", "cut", " ", "0", ";", "damp", " ", "9", ";",
            " ", "errand", " ", "0", " ", "20", ";", "rule", " ", "0", " ", "20", " ", "1", " ", ";", " "};
        String ahead = "";
        int items = 0;
        boolean inItem = false;
        for (String token : tokens) {
            boolean isWord = token.charAt(0) >= 'a';
            for (int part = 1; part < token.length(); part++) {
                String text = ahead + token.substring(0, part);
                faultAt(isWord ? ahead.length() : text.length(), text);
            }
            ahead = ahead + token;
            if (token.equals(";")) items++;
            if (!token.equals(" ")) inItem = !token.equals(";");
            if (inItem) faultAt(ahead.length(), ahead);
            else isRead(items, ahead);
        }
    }

    private static void aWordThatIsNone() {
        says("FAULT: a word that is none");
        for (String word : new String[] {"t", "thin", "things", "thingthing", "cu", "cuts", "dam", "damps", "erran", "errands",
            "rul", "rules", "a", "z", "open", "thinh", "cuu", "damq", "errane", "rulf", "uhing", "dut", "eamp", "frrand", "sule"}) {
            faultAt(0, word + " 0 0 1 0;");
            faultAt(7, "damp 1;" + word);
            faultAt(9, "damp 1;  " + word + ";");
            faultAt(5, "damp " + word + ";");
            faultAt(7, "damp 1 " + word);
        }
        for (String word : new String[] {"thing", "cut", "damp", "errand", "rule"}) {
            faultAt(5, "damp " + word + " 1;");
            faultAt(6, "thing " + word);
            faultAt(7, "damp 1 " + word + ";");
        }
        faultAt(0, "Thing 0 0 1 0;");
        faultAt(0, "thinG 0 0 1 0;");
    }

    private static void aSixthThing() {
        says("FAULT: a 6th thing at its word");
        isRead(5, FIVE);
        faultAt(70, FIVE + ONE);
        faultAt(71, FIVE + " " + ONE);
        faultAt(70, FIVE + "thing");
        faultAt(70, FIVE + "thing 9 9 9 9;");
        faultAt(76, FIVE + "cut 4;" + ONE);
    }

    private static void aSixthErrand() {
        says("FAULT: a 6th errand at its word");
        String five = ONE + times(5, "errand 0 1;");
        isRead(6, five);
        faultAt(69, five + "errand 0 1;");
        faultAt(69, five + "errand");
        faultAt(69, five + "errand 9 1;");
        faultAt(83, five + ONE + "errand 0 1;");
    }

    private static void aFifthRule() {
        says("FAULT: a 5th rule at its word");
        String four = ONE + times(4, "rule 0 1 1;");
        isRead(5, four);
        faultAt(58, four + "rule 0 1 1;");
        faultAt(58, four + "rule");
        faultAt(58, four + "rule 9 1 1;");
        faultAt(72, four + ONE + "rule 0 1 1;");
    }

    private static void aNumberNotAsTold() {
        says("FAULT: a number not as told");
        isRead(1, "thing 4 9 9 9;");
        faultAt(6, "thing 5 9 9 9;");
        faultAt(8, "thing 4 10 9 9;");
        faultAt(10, "thing 4 9 10 9;");
        faultAt(12, "thing 4 9 9 10;");
        isRead(1, "thing 0 0 1 0;");
        faultAt(10, "thing 0 0 0 0;");
        faultAt(10, "thing 0 0 00 0;");
        isRead(1, "damp 9;");
        faultAt(5, "damp 10;");
        isRead(2, ONE + "errand 0 20;");
        faultAt(23, ONE + "errand 0 21;");
        isRead(2, ONE + "rule 0 20 1;");
        faultAt(21, ONE + "rule 0 21 1;");
        faultAt(5, "damp -1;");
        faultAt(5, "damp 10");
        faultAt(6, "thing 5");
    }

    private static void aThingThatIsNotThereYet() {
        says("FAULT: also a THING that is not there yet");
        faultAt(4, "cut 0;" + ONE);
        faultAt(7, "errand 0 1;" + ONE);
        faultAt(5, "rule 0 1 0;" + ONE);
        for (int things = 1; things <= 5; things++) {
            String there = times(things, ONE);
            int at = 14 * things;
            isRead(things + 1, there + "cut " + (things - 1) + ";");
            isRead(things + 1, there + "errand " + (things - 1) + " 1;");
            isRead(things + 1, there + "rule " + (things - 1) + " 1 0;");
            faultAt(at + 4, there + "cut " + things + ";");
            faultAt(at + 7, there + "errand " + things + " 1;");
            faultAt(at + 5, there + "rule " + things + " 1 0;");
            faultAt(at + 4, there + "cut 99;");
        }
        OneBell x = village(FIVE);
        typeText(x, ONE + "cut 1;");
        due("the old village's things count nothing", x.read(), -28);
    }

    private static void oneCutAgain() {
        says("FAULT: one cut again");
        isRead(10, FIVE + "cut 4;cut 3;cut 2;cut 1;cut 0;");
        faultAt(24, ONE + "cut 0;cut 0;");
        faultAt(24, ONE + "cut 0;cut 00;");
        faultAt(38, ONE + "cut 0;" + ONE + "cut 0;");
        isRead(4, ONE + "cut 0;" + ONE + "cut 1;");
        faultAt(24, ONE + "cut 0;cut 0");
        OneBell x = village(ONE + "cut 0;");
        typeText(x, ONE + "cut 0;");
        due("what was cut in the old village counts nothing", x.read(), 2);
        due("again", x.read(), 2);
    }

    private static void aSetBeyondThingsThere() {
        says("FAULT: a SET beyond THINGS there");
        for (int things = 1; things <= 5; things++) {
            String there = times(things, ONE);
            isRead(things + 1, there + "rule 0 1 " + ((1 << things) - 1) + ";");
            isRead(things + 1, there + "rule 0 1 0;");
            faultAt(14 * things + 9, there + "rule 0 1 " + (1 << things) + ";");
            faultAt(14 * things + 9, there + "rule 0 1 " + (1 << things) + ";" + (things < 5 ? ONE : ""));
            faultAt(14 * things + 9, there + "rule 0 1 99;");
        }
    }

    private static void aByteThatBeginsNone() {
        says("FAULT: a byte that begins none");
        faultAt(0, "-");
        faultAt(5, "damp -1;");
        faultAt(6, "damp 1,");
        faultAt(6, "damp 1\n;");
        faultAt(4, "damp\t1;");
        faultAt(4, "damp" + (char) 255 + "1;");
        faultAt(7, "damp 1;" + (char) 0);
        faultAt(7, "damp 1;" + (char) 160);
    }

    private static void theFirstFault() {
        says("FAULT: the first TOKEN that can not stand there");
        faultAt(6, "thing 5 10 0 10;");
        faultAt(8, "thing 0 10 0 10;x");
        faultAt(5, "damp 10 ;; x");
        faultAt(21, ONE + "errand 1 21;rule 9 9 99;");
        faultAt(19, ONE + "rule 1 21 2;");
        faultAt(21, ONE + "rule 0 21 2;");
        faultAt(0, "x" + times(6, ONE));
    }

    // ---- what is read

    private static void whatIsReadTakesThePlace() {
        says("A VILLAGE that is read takes the place of all but IMAGES, THE TEXT, THE FRACTION, STATUS");
        OneBell x = village("thing 0 0 1 1;thing 1 0 1 3;thing 3 0 1 2;cut 2;damp 4;errand 0 1;errand 1 1;rule 0 1 1;");
        // Half of 3 by errand 0; half of 1 and of 2 by errand 1.
        x.share(1);
        x.pull(0, 1);
        x.pull(9, 1);
        x.image(1);
        typeText(x, "thing 0 3 4 5;");
        due("read", x.read(), 1);
        due("all else", x.digest(), mixed(1, 1, 0, 0, 0, 14, 0, 0, 0, 3, 4, 5, 1, 3, 1));
        due("none may be undone", x.undo(), OneBell.NO);
        statusIs(x, 1, 1, 0);
        due("the text can be read again", x.read(), 1);
        due("image 0 was not kept", x.from(0), OneBell.NO);
        due("image 1 was", x.from(1), 1);
        countsAre(x, 3, 2, 2, 1, 1, 14, 4);
        due("open", x.open(), 3);
    }

    private static void aFaultLeavesAll() {
        says("-10 less the FAULT: all stays");
        OneBell x = village("thing 0 0 1 1;thing 1 0 1 3;cut 1;damp 4;errand 0 1;rule 0 1 1;");
        x.pull(0, 1);
        x.image(0);
        x.pull(1, 1);
        String text = times(4, "thing 3 3 3 3;") + "cut 0;damp 9;errand 3 9;rule 0 9 1;errand 3 21;";
        typeText(x, text);
        long ahead = x.digest();
        due("a fault at the end", x.read(), -10 - text.lastIndexOf("21"));
        due("digest", x.digest(), ahead);
        due("the same again", x.read(), -10 - text.lastIndexOf("21"));
        statusIs(x, 0, 0, 0);
        due("the last pull may be undone", x.undo(), 1);
        due("open", x.open(), 1);
        due("and the one ahead of it", x.undo(), 1);
        due("open", x.open(), 0);
        due("the image is there", x.from(0), 1);
        due("the text is there", x.clear(), text.length());
    }
}
