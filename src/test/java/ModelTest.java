import java.util.ArrayList;
import java.util.Arrays;
import java.util.List;
import java.util.Random;
import java.util.regex.Matcher;
import java.util.regex.Pattern;

/**
 * Runs of chance calls on OneBell and on a second village, written from the document in another way: things one
 * by one, all rows, all orders. Every answer must be alike. The seeds are fixed, so a run can be had again.
 */
public final class ModelTest {
    private static final int RUNS = 300;
    private static final int CALLS = 512;
    // A village of 200 bytes: one clear, 25 pieces and one more, one read.
    private static final int MOST_OF_A_STEP = 28;
    private static final int AT_THE_END = 4;

    private static int wrong = 0;
    private static int calls = 0;

    public static void main(String[] args) {
        for (int seed = 1; seed <= RUNS && wrong < 20; seed++) run(seed);
        System.out.println(wrong == 0 ? RUNS + " runs alike" : wrong + " answers differ");
        if (wrong != 0) System.exit(1);
    }

    private static void run(int seed) {
        Random chance = new Random(seed);
        OneBell bell = new OneBell();
        Model model = new Model();
        calls = 0;
        for (int step = 0; step < CALLS && calls <= CALLS - MOST_OF_A_STEP - AT_THE_END; step++) {
            if (differs(seed, step(chance, bell, model))) return;
        }
        for (int what = 0; what <= 2; what++) {
            if (differs(seed, differ("status " + what, bell.status(what), model.status(what)))) return;
        }
        differs(seed, differ("digest", bell.digest(), model.digest()));
        if (calls > CALLS) differs(seed, "the test itself makes too many calls");
    }

    private static boolean differs(int seed, String told) {
        if (told == null) return false;
        wrong++;
        System.out.println("seed " + seed + ", call " + calls + ": " + told);
        return true;
    }

    /** One step: a call or a few; null if all answers are alike. */
    private static String step(Random c, OneBell x, Model m) {
        int t = some(c, m.things.size()), n = some(c, 20), set = some(c, (1 << m.things.size()) - 1);
        int u = some(c, m.things.size()), k = some(c, 20);
        switch (c.nextInt(46)) {
            case 0: case 1: case 2: {
                int kind = some(c, 4), slack = some(c, 9), stop = some(c, 9), harm = some(c, 9);
                return differ("thing " + kind + " " + slack + " " + stop + " " + harm,
                    x.thing(kind, slack, stop, harm), m.thing(kind, slack, stop, harm));
            }
            case 3: case 4: {
                boolean is = c.nextInt(3) > 0;
                return differ("rope " + t + " " + is, x.rope(t, is), m.rope(t, is));
            }
            case 5: {
                int d = c.nextInt(3) == 0 ? some(c, 9) : c.nextInt(3);
                return differ("damp " + d, x.damp(d), m.damp(d));
            }
            case 6: {
                long v = c.nextLong();
                int bytes = some(c, 8);
                return differ("type " + v + " " + bytes, x.type(v, bytes), m.type(v, bytes));
            }
            case 7: return c.nextInt(3) == 0 ? typeAll(c, x, m) : differ("clear", x.clear(), m.clear());
            case 8: return differ("read", x.read(), m.read());
            case 9: case 10: case 11: case 12:
                return differ("pull " + t + " " + n, x.pull(t, n), m.pull(t, n));
            case 13: case 14:
                return differ("both " + t + " " + n + " " + u + " " + k, x.both(t, n, u, k), m.both(t, n, u, k));
            case 15: case 16: return differ("would " + t + " " + n, x.would(t, n), m.would(t, n));
            case 17: return differ("open", x.open(), m.bits(m.open));
            case 18: return differ("moves " + t + " " + n + " " + u, x.moves(t, n, u), m.moves(t, n, u));
            case 19: return differ("undo", x.undo(), m.undo());
            case 20: case 21: case 22: return differ("errand " + t + " " + n, x.errand(t, n), m.errand(t, n));
            case 23: return differ("drop", x.drop(), m.drop());
            case 24: case 25: return differ("order " + k, x.order(k % 7), m.order(k % 7));
            case 26: case 27: case 28:
                return differ("code " + set + " " + u, x.code(set, u - 1), m.code(set, u - 1));
            case 29: case 30: return differ("who " + set + " " + u, x.who(set, u), m.who(set, u));
            case 31: return differ("heard " + u, x.heard(u), m.heard(u));
            case 32: case 33: return differ("cuts " + set, x.cuts(set), m.cuts(set));
            case 34: case 35:
                return differ("rule " + t + " " + n + " " + set, x.rule(t, n, set), m.rule(t, n, set));
            case 36: return c.nextInt(3) > 0 ? ruleThatHolds(c, x, m) : differ("free", x.free(), m.free());
            case 37: return c.nextInt(3) > 0 ? null : differ("slack " + t, x.slack(t), m.slack(t));
            case 38: return c.nextInt(3) > 0 ? null : differ("giveUp", x.giveUp(), m.giveUp());
            case 39: return differ("share " + t, x.share(t), m.share(t));
            case 40: return differ("part " + t, x.part(t), m.part(t));
            case 41: {
                int i = some(c, 1);
                return c.nextBoolean() ? differ("image " + i, x.image(i), m.image(i))
                    : differ("from " + i, x.from(i), m.from(i));
            }
            case 42: return differ("status " + u, x.status(u % 4), m.status(u % 4));
            case 43: return differ("count " + k, x.count(k % 9), m.count(k % 9));
            case 44: return differ("digest", x.digest(), m.digest());
            default: return c.nextInt(4) == 0 ? village(c, x, m) : null;
        }
    }

    /** One call each: an object has 512. */
    private static String differ(String call, long got, long due) {
        calls++;
        return got == due ? null : call + " answered " + got + ", due is " + due;
    }

    /** Mostly 0 .. most, now and then outside of it. */
    private static int some(Random c, int most) {
        int dice = c.nextInt(60);
        if (dice == 0) return -1;
        if (dice == 1) return most + 1;
        if (dice == 2) return c.nextInt();
        return c.nextInt(Math.max(1, most + 1));
    }

    /** A rule that some row of slacks keeps, so that searches do not fail at once. */
    private static String ruleThatHolds(Random c, OneBell x, Model m) {
        int many = m.things.size();
        if (many == 0) return null;
        int t = c.nextInt(many), n = c.nextInt(21);
        int[] row = new int[many];
        for (int i = 0; i < many; i++) row[i] = c.nextInt(4);
        int set = m.opens(t, n, row);
        return differ("rule " + t + " " + n + " " + set, x.rule(t, n, set), m.rule(t, n, set));
    }

    /** A whole village by a text, mostly faultless. */
    private static String village(Random c, OneBell x, Model m) {
        String told = differ("clear", x.clear(), m.clear());
        if (told != null) return told;
        StringBuilder text = new StringBuilder();
        int things = c.nextInt(6);
        for (int t = 0; t < things; t++) {
            text.append("thing ").append(c.nextInt(5)).append(' ').append(c.nextInt(10)).append(' ')
                .append(1 + c.nextInt(9)).append(' ').append(c.nextInt(10)).append(';');
        }
        int more = things == 0 ? 0 : c.nextInt(9);
        for (int i = 0; i < more; i++) {
            switch (c.nextInt(4)) {
                case 0: text.append("cut ").append(c.nextInt(things)).append(';'); break;
                case 1: text.append("damp ").append(c.nextInt(10)).append(';'); break;
                case 2: text.append("errand ").append(c.nextInt(things)).append(' ').append(c.nextInt(21))
                    .append(';'); break;
                default: text.append("rule ").append(c.nextInt(things)).append(' ').append(c.nextInt(21))
                    .append(' ').append(c.nextInt(1 << things)).append(';'); break;
            }
        }
        spoil(c, text);
        told = typeText(text.toString(), x, m);
        if (told != null) return told;
        return differ("read of '" + m.text + "'", x.read(), m.read());
    }

    private static void spoil(Random c, StringBuilder text) {
        String signs = "0123456789;;  tcdruleX@9" + (char) 0 + (char) 255;
        for (int i = c.nextInt(4); i > 0 && text.length() > 0 && c.nextInt(3) == 0; i--) {
            int at = c.nextInt(text.length());
            char sign = signs.charAt(c.nextInt(signs.length()));
            switch (c.nextInt(4)) {
                case 0: text.setCharAt(at, sign); break;
                case 1: text.insert(at, sign); break;
                case 2: text.deleteCharAt(at); break;
                default: text.setLength(at); break;
            }
        }
    }

    private static String typeAll(Random c, OneBell x, Model m) {
        String[] items = {"thing 0 1 2 3;", " damp 03 ;", "cut 0;", "errand 0 20;", "rule 0 5 1;", "  ", "thin", "cut0;"};
        return typeText(items[c.nextInt(items.length)], x, m);
    }

    private static String typeText(String text, OneBell x, Model m) {
        for (int at = 0; at < text.length(); at += 8) {
            String piece = text.substring(at, Math.min(text.length(), at + 8));
            long v = 0;
            for (int i = 0; i < piece.length(); i++) v = v << 8 | piece.charAt(i);
            String told = differ("type '" + piece + "'", x.type(v, piece.length()), m.type(v, piece.length()));
            if (told != null) return told;
        }
        return null;
    }

    /** The second village. */
    private static final class Model {
        List<int[]> things = new ArrayList<>();      // kind, slack, stop, harm
        List<Boolean> whole = new ArrayList<>();
        List<int[]> errands = new ArrayList<>();     // thing, inches
        List<int[]> rules = new ArrayList<>();       // thing, inches, set
        List<boolean[]> pasts = new ArrayList<>();
        boolean[] open = new boolean[5];
        int damp = 0;
        String text = "";
        long above = 0, below = 1;
        final Model[] images = new Model[2];
        final int[] refused = new int[3];

        int no(int reason, int answer) { refused[reason]++; return answer; }
        boolean isThing(int t) { return t >= 0 && t < things.size(); }
        boolean isSet(int s) { return s >= 0 && s < Math.pow(2, things.size()); }
        boolean isInches(int n) { return n >= 0 && n <= 20; }

        int bits(boolean[] set) {
            int sum = 0;
            for (int i = 0; i < 5; i++) if (set[i]) sum += (int) Math.pow(2, i);
            return sum;
        }

        boolean[] set(int bits) {
            boolean[] set = new boolean[5];
            for (int i = 0; i < 5; i++) set[i] = bits / (int) Math.pow(2, i) % 2 == 1;
            return set;
        }

        int thing(int kind, int slack, int stop, int harm) {
            if (kind < 0 || kind > 4 || slack < 0 || slack > 9 || stop < 1 || stop > 9 || harm < 0 || harm > 9) {
                return no(0, -2);
            }
            if (things.size() == 5) return no(2, -4);
            things.add(new int[] {kind, slack, stop, harm});
            whole.add(true);
            return things.size() - 1;
        }

        int rope(int t, boolean is) {
            if (!isThing(t)) return no(0, -2);
            if (whole.get(t) == is) return no(1, -3);
            whole.set(t, is);
            return 1;
        }

        int damp(int n) {
            if (n < 0 || n > 9) return no(0, -2);
            int was = damp;
            damp = n;
            return was;
        }

        int type(long v, int n) {
            if (n < 1 || n > 8) return no(0, -2);
            if (text.length() + n > 200) return no(2, -4);
            StringBuilder more = new StringBuilder();
            for (int i = 0; i < n; i++) { more.insert(0, (char) (v & 255)); v >>= 8; }
            text += more;
            return text.length();
        }

        int clear() { int had = text.length(); text = ""; return had; }

        int read() {
            Model read = new Model();
            int answer = read.take(text);
            if (answer >= 0) copy(read);
            return answer;
        }

        int take(String told) {
            List<String> tokens = new ArrayList<>();
            List<Integer> places = new ArrayList<>();
            Matcher m = Pattern.compile("[a-z]+|[0-9]+|[^ ]", Pattern.DOTALL).matcher(told);
            while (m.find()) { tokens.add(m.group()); places.add(m.start()); }
            places.add(told.length());
            int at = 0, items = 0;
            while (at < tokens.size()) {
                List<Integer> got = new ArrayList<>();
                String word = tokens.get(at);
                int many = List.of("thing", "cut", "damp", "errand", "rule").indexOf(word);
                if (many < 0 || word.equals("thing") && things.size() == 5 || word.equals("errand") && errands.size() == 5
                    || word.equals("rule") && rules.size() == 4) return -10 - places.get(at);
                int numbers = new int[] {4, 1, 1, 2, 3}[many];
                for (at++; got.size() < numbers; at++) {
                    if (at >= tokens.size() || !tokens.get(at).matches("[0-9][0-9]?")) return -10 - places.get(at);
                    got.add(Integer.parseInt(tokens.get(at)));
                    if (!fits(word, got)) return -10 - places.get(at);
                }
                if (at >= tokens.size() || !tokens.get(at).equals(";")) return -10 - places.get(at);
                at++;
                items++;
                done(word, got);
            }
            return items;
        }

        boolean fits(String word, List<Integer> got) {
            int last = got.get(got.size() - 1);
            switch (word) {
                case "thing": {
                    int[] least = {0, 0, 1, 0}, most = {4, 9, 9, 9};
                    return last >= least[got.size() - 1] && last <= most[got.size() - 1];
                }
                case "cut": return isThing(last) && whole.get(last);
                case "damp": return last <= 9;
                default: return got.size() == 1 ? isThing(last) : got.size() == 2 ? isInches(last) : isSet(last);
            }
        }

        void done(String word, List<Integer> g) {
            switch (word) {
                case "thing": thing(g.get(0), g.get(1), g.get(2), g.get(3)); break;
                case "cut": rope(g.get(0), false); break;
                case "damp": damp(g.get(0)); break;
                case "errand": errand(g.get(0), g.get(1)); break;
                default: rule(g.get(0), g.get(1), g.get(2)); break;
            }
        }

        int slackOf(int t) { return things.get(t)[1] > damp ? things.get(t)[1] - damp : 0; }

        int travel(int t, int n) { return !whole.get(t) || n < slackOf(t) ? 0 : n - slackOf(t); }

        int move(int t, int[] pulls, int travel) {
            for (int i = 0; i < pulls.length; i += 2) if (pulls[i] == t) return pulls[i + 1];
            return !whole.get(t) || travel < slackOf(t) ? 0 : travel - slackOf(t);
        }

        static boolean state(int kind, boolean was, int m, int stop) {
            boolean door = m >= stop;
            switch (kind) {
                case 0: return door;
                case 1: return was ? true : door;
                case 2: return door ? false : was;
                case 3: return door ? !was : was;
                default: return m >= stop + 3 ? false : was ? true : door;
            }
        }

        boolean[] behind(boolean[] was, int... pulls) {
            int travel = 0;
            for (int i = 0; i < pulls.length; i += 2) travel += travel(pulls[i], pulls[i + 1]);
            boolean[] then = new boolean[5];
            for (int t = 0; t < things.size(); t++) {
                then[t] = state(things.get(t)[0], was[t], move(t, pulls, travel), things.get(t)[2]);
            }
            return then;
        }

        int harm(boolean[] was, boolean[] then) {
            int sum = 0;
            for (int t = 0; t < things.size(); t++) if (then[t] && !was[t]) sum += things.get(t)[3];
            return sum;
        }

        void pullNow(int... pulls) {
            pasts.add(open);
            if (pasts.size() > 10) pasts.remove(0);
            open = behind(open, pulls);
        }

        int pull(int t, int n) {
            if (!isThing(t) || !isInches(n)) return no(0, -2);
            pullNow(t, n);
            return travel(t, n) / 3;
        }

        int both(int p, int n, int q, int m) {
            if (!isThing(p) || !isInches(n) || !isThing(q) || !isInches(m) || p == q) return no(0, -2);
            pullNow(p, n, q, m);
            return (travel(p, n) + travel(q, m)) / 3;
        }

        int would(int t, int n) {
            return !isThing(t) || !isInches(n) ? no(0, -2) : bits(behind(open, t, n));
        }

        int moves(int p, int n, int t) {
            if (!isThing(p) || !isInches(n) || !isThing(t)) return no(0, -2);
            return move(t, new int[] {p, n}, travel(p, n));
        }

        int undo() {
            if (pasts.isEmpty()) return no(1, -3);
            open = pasts.remove(pasts.size() - 1);
            return 1;
        }

        int errand(int t, int n) {
            if (!isThing(t) || !isInches(n)) return no(0, -2);
            if (errands.size() == 5) return no(2, -4);
            errands.add(new int[] {t, n});
            return errands.size() - 1;
        }

        int drop() {
            if (errands.isEmpty()) return no(1, -3);
            errands.remove(errands.size() - 1);
            return errands.size();
        }

        void orders(int many, List<Integer> row, List<List<Integer>> all) {
            if (row.size() == many) all.add(new ArrayList<>(row));
            for (int e = 0; e < many; e++) {
                if (row.contains(e)) continue;
                row.add(e);
                orders(many, row, all);
                row.remove(row.size() - 1);
            }
        }

        int order(int i) {
            if (i < -1) return no(0, -10);
            if (i >= errands.size()) return -5;
            List<List<Integer>> all = new ArrayList<>();
            orders(errands.size(), new ArrayList<>(), all);
            int least = Integer.MAX_VALUE;
            List<Integer> first = null;
            for (List<Integer> row : all) {
                boolean[] at = open;
                int sum = 0;
                for (int e : row) {
                    boolean[] then = behind(at, errands.get(e));
                    sum += harm(at, then);
                    at = then;
                }
                if (sum < least) { least = sum; first = row; }
            }
            return i == -1 ? least : first.get(i);
        }

        /** Rows by length, then by numbers; a row that comes again to where an earlier one came is not gone on with. */
        int code(int set, int i) {
            if (!isSet(set) || i < -1) return no(0, -10);
            List<List<Integer>> rows = new ArrayList<>();
            List<boolean[]> states = new ArrayList<>();
            rows.add(new ArrayList<>());
            states.add(open);
            for (int at = 0; at < rows.size(); at++) {
                if (bits(states.get(at)) == set) {
                    List<Integer> row = rows.get(at);
                    return i == -1 ? row.size() : i >= row.size() ? -5 : row.get(i);
                }
                for (int e = 0; e < errands.size(); e++) {
                    boolean[] then = behind(states.get(at), errands.get(e));
                    boolean known = false;
                    for (boolean[] s : states) known |= Arrays.equals(s, then);
                    if (known) continue;
                    List<Integer> row = new ArrayList<>(rows.get(at));
                    row.add(e);
                    rows.add(row);
                    states.add(then);
                }
            }
            return -1;
        }

        int who(int set, int what) {
            if (!isSet(set) || what < 0 || what > 1) return no(0, -10);
            int many = 0, least = -1;
            for (int done = (1 << errands.size()) - 1; done >= 0; done--) {
                boolean[] at = open;
                for (int e = 0; e < errands.size(); e++) if (set(done)[e]) at = behind(at, errands.get(e));
                if (bits(at) == set) { many++; least = done; }
            }
            return what == 0 ? many : least;
        }

        int heard(int r) {
            if (r < 0) return no(0, -2);
            boolean[] set = new boolean[5];
            for (int e = 0; e < errands.size(); e++) set[e] = travel(errands.get(e)[0], errands.get(e)[1]) / 3 == r;
            return bits(set);
        }

        int cuts(int told) {
            if (!isSet(told)) return no(0, -10);
            List<Boolean> ropes = new ArrayList<>(whole);
            for (int many = 0; many <= 5; many++) {
                for (int cut = 0; cut < 1 << things.size(); cut++) {
                    boolean may = Integer.bitCount(cut) == many;
                    for (int t = 0; t < things.size(); t++) {
                        if (set(cut)[t] && !ropes.get(t)) may = false;
                        whole.set(t, ropes.get(t) && !set(cut)[t]);
                    }
                    for (int[] e : errands) {
                        boolean[] then = behind(open, e);
                        for (int t = 0; t < things.size(); t++) if (set(told)[t] && then[t] && !open[t]) may = false;
                    }
                    whole = new ArrayList<>(ropes);
                    if (may) return cut;
                }
            }
            return -1;
        }

        int rule(int t, int n, int set) {
            if (!isThing(t) || !isInches(n) || !isSet(set)) return no(0, -2);
            if (rules.size() == 4) return no(2, -4);
            rules.add(new int[] {t, n, set});
            return rules.size() - 1;
        }

        int free() { int were = rules.size(); rules.clear(); return were; }

        int opens(int t, int n, int[] row) {
            int travel = Math.max(0, n - row[t]), set = 0;
            for (int j = 0; j < row.length; j++) {
                int m = j == t ? n : Math.max(0, travel - row[j]);
                if (state(things.get(j)[0], false, m, things.get(j)[2])) set |= 1 << j;
            }
            return set;
        }

        /** For each set of rules the first row that keeps not just these; a number of as many figures as things. */
        int[] firstRows() {
            int[] first = new int[16];
            Arrays.fill(first, -1);
            int[] row = new int[things.size()];
            for (int number = 0; number < Math.pow(10, row.length); number++) {
                for (int t = row.length - 1, rest = number; t >= 0; t--, rest /= 10) row[t] = rest % 10;
                int broken = 0;
                for (int r = 0; r < rules.size(); r++) {
                    int[] rule = rules.get(r);
                    if (opens(rule[0], rule[1], row) != rule[2]) broken |= 1 << r;
                }
                if (first[broken] < 0) first[broken] = number;
            }
            return first;
        }

        int slack(int t) {
            if (!isThing(t)) return no(0, -10);
            int number = firstRows()[0];
            for (int i = things.size() - 1; i > t; i--) number = number < 0 ? number : number / 10;
            return number < 0 ? -1 : number % 10;
        }

        int giveUp() {
            int[] first = firstRows();
            for (int many = 0; many <= 4; many++) {
                for (int broken = 0; broken < 16; broken++) {
                    if (Integer.bitCount(broken) == many && first[broken] >= 0) return broken;
                }
            }
            return 0;
        }

        int harmWith(List<Boolean> ropes) {
            List<Boolean> kept = whole;
            whole = ropes;
            int sum = 0;
            for (int[] e : errands) sum += harm(new boolean[5], behind(new boolean[5], e));
            whole = kept;
            return sum;
        }

        int share(int t) {
            if (!isThing(t)) return no(0, -2);
            List<List<Integer>> all = new ArrayList<>();
            orders(things.size(), new ArrayList<>(), all);
            long sum = 0;
            for (List<Integer> row : all) {
                List<Boolean> ropes = new ArrayList<>();
                for (int i = 0; i < things.size(); i++) ropes.add(row.indexOf(i) < row.indexOf(t));
                int without = harmWith(ropes);
                ropes.set(t, true);
                sum += harmWith(ropes) - without;
            }
            above = sum;
            below = all.size();
            for (int d = 2; d <= 120; d++) while (above % d == 0 && below % d == 0) { above /= d; below /= d; }
            return 1;
        }

        long part(int what) { return what == 0 ? above : what == 1 ? below : no(0, -1000); }

        void copy(Model o) {
            things = new ArrayList<>(o.things);
            whole = new ArrayList<>(o.whole);
            errands = new ArrayList<>(o.errands);
            rules = new ArrayList<>(o.rules);
            pasts = new ArrayList<>(o.pasts);
            open = o.open;
            damp = o.damp;
        }

        int image(int i) {
            if (i != 0 && i != 1) return no(0, -2);
            images[i] = new Model();
            images[i].copy(this);
            return 1;
        }

        int from(int i) {
            if (i != 0 && i != 1) return no(0, -2);
            if (images[i] == null) return no(1, -3);
            copy(images[i]);
            return 1;
        }

        int status(int what) { return what < 0 || what > 2 ? no(0, -1) : refused[what]; }

        int count(int what) {
            if (what < 0 || what > 6) return no(0, -2);
            int ropes = 0;
            for (boolean is : whole) if (is) ropes++;
            return new int[] {things.size(), ropes, errands.size(), rules.size(), pasts.size(), text.length(), damp}[what];
        }

        long digest() {
            List<Long> all = new ArrayList<>();
            for (int i = 0; i <= 6; i++) all.add((long) count(i));
            all.add((long) bits(open));
            for (int t = 0; t < things.size(); t++) {
                for (int v : things.get(t)) all.add((long) v);
                all.add(whole.get(t) ? 1L : 0L);
            }
            for (int[] e : errands) for (int v : e) all.add((long) v);
            for (int[] r : rules) for (int v : r) all.add((long) v);
            all.add(above);
            all.add(below);
            long h = 773;
            for (long v : all) h = 31 * h + v;
            return h;
        }
    }
}
