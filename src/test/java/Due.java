/** What the tests share: answers held against what is due, and villages told by a text. */
class Due {
    static final int DOOR = 0, LATCH = 1, LID = 2, WHEEL = 3, SLUICE = 4;
    static final int LEAST = Integer.MIN_VALUE, MOST = Integer.MAX_VALUE;

    private static int wrong = 0;
    private static String sentence = "";

    /** The document's words that the answers from here on are held against. */
    static void says(String words) {
        sentence = words;
    }

    static void due(String what, long got, long want) {
        if (got == want) return;
        wrong++;
        System.out.println("[" + sentence + "] " + what + " answered " + got + ", due is " + want);
    }

    static void due(String what, String got, String want) {
        if (got.equals(want)) return;
        wrong++;
        System.out.println("[" + sentence + "] " + what + " is " + got + ", due is " + want);
    }

    static void end(String allHolds) {
        System.out.println(wrong == 0 ? allHolds : wrong + " answers are not as due");
        if (wrong != 0) System.exit(1);
    }

    /** A village by a text that must be faultless; the text itself is gone behind it. */
    static OneBell village(String text) {
        OneBell x = new OneBell();
        readInto(x, text);
        return x;
    }

    static void readInto(OneBell x, String text) {
        x.clear();
        typeText(x, text);
        if (x.read() < 0) throw new IllegalStateException("the test's own text has a fault: " + text);
        x.clear();
    }

    /** By eight bytes at a time: an object has 512 calls. */
    static void typeText(OneBell x, String text) {
        for (int from = 0; from < text.length(); from += 8) {
            int many = Math.min(8, text.length() - from);
            long bytes = 0;
            for (int i = from; i < from + many; i++) bytes = bytes << 8 | text.charAt(i);
            x.type(bytes, many);
        }
    }

    static int readOf(String text) {
        OneBell x = new OneBell();
        typeText(x, text);
        return x.read();
    }

    static String times(int many, String text) {
        StringBuilder all = new StringBuilder();
        for (int i = 0; i < many; i++) all.append(text);
        return all.toString();
    }

    static void statusIs(OneBell x, int bad, int no, int full) {
        due("status(0)", x.status(0), bad);
        due("status(1)", x.status(1), no);
        due("status(2)", x.status(2), full);
    }

    static void countsAre(OneBell x, int... counts) {
        for (int what = 0; what < counts.length; what++) due("count(" + what + ")", x.count(what), counts[what]);
    }

    static long mixed(long... values) {
        long h = 773;
        for (long v : values) h = 31 * h + v;
        return h;
    }
}
