import java.util.ArrayList;
import java.util.List;

/**
 * Two villages are made alike; a call is made on one of them. Then both are asked all that can be asked, and all that
 * is kept in them is unwound: a call that is refused, or that only asks, may have changed nothing but STATUS, and that
 * by one, for the reason that is due.
 */
public final class RefusedTest extends Due {
    private static final int ASKED = -1, BAD = 0, NO = 1, FULL = 2;
    private static final int[] OUTSIDE = {LEAST, LEAST + 1, -256, -32, -1, 32, 33, 64, 256, 1 << 16, MOST - 1, MOST};

    private interface Call {
        long on(OneBell x);
    }

    private interface Village {
        OneBell made();
    }

    public static void main(String[] args) {
        empty();
        some();
        full();
        end("what is refused changes nothing but status");
    }

    // ---- the three villages

    private static OneBell madeWithSome() {
        OneBell x = village("thing 3 1 2 5;thing 1 0 3 4;thing 4 2 1 7;cut 1;damp 1;errand 0 4;errand 2 5;rule 0 5 1;rule 2 9 4;");
        x.pull(0, 3);
        x.image(0);
        x.pull(2, 1);
        x.both(1, 3, 0, 0);
        x.share(2);
        typeText(x, "thing 0 0 1 0;damp 2;");
        x.damp(10);
        x.undo();
        return x;
    }

    private static OneBell madeFull() {
        OneBell x = village("thing 0 0 1 1;thing 1 1 2 2;thing 2 2 3 3;thing 3 3 4 4;thing 4 0 5 5;cut 2;damp 9;"
            + "errand 0 1;errand 1 5;errand 2 9;errand 3 13;errand 4 8;");
        for (int n = 5; n <= 8; n++) x.rule(n - 5, n, 1 << n - 5);
        x.image(1);
        for (int n = 1; n <= 12; n++) x.pull(n % 5, n);
        x.image(0);
        x.pull(3, 6);
        x.share(0);
        typeText(x, "thing 1 2 3 4;cut 0;damp 3;errand 0 20;rule 0 1 1;");
        for (int i = 0; i < 150; i++) x.type(' ', 1);
        return x;
    }

    // ---- what each refuses

    private static void empty() {
        says("an empty village");
        Village made = OneBell::new;
        for (int t : new int[] {0, 1, 4, 5, -1, LEAST, MOST}) {
            refused(made, "rope", x -> x.rope(t, false), -2, BAD);
            refused(made, "rope", x -> x.rope(t, true), -2, BAD);
            refused(made, "pull", x -> x.pull(t, 0), -2, BAD);
            refused(made, "both", x -> x.both(t, 0, 1, 0), -2, BAD);
            refused(made, "would", x -> x.would(t, 0), -2, BAD);
            refused(made, "moves", x -> x.moves(t, 0, t), -2, BAD);
            refused(made, "errand", x -> x.errand(t, 0), -2, BAD);
            refused(made, "rule", x -> x.rule(t, 0, 0), -2, BAD);
            refused(made, "slack", x -> x.slack(t), -10, BAD);
            refused(made, "share", x -> x.share(t), -2, BAD);
        }
        for (int set : new int[] {1, 2, 31, 32, -1, LEAST, MOST}) {
            refused(made, "code", x -> x.code(set, -1), -10, BAD);
            refused(made, "who", x -> x.who(set, 0), -10, BAD);
            refused(made, "cuts", x -> x.cuts(set), -10, BAD);
        }
        refused(made, "undo", OneBell::undo, -3, NO);
        refused(made, "drop", OneBell::drop, -3, NO);
        refused(made, "from 0", x -> x.from(0), -3, NO);
        refused(made, "from 1", x -> x.from(1), -3, NO);
        asks(made, "order of none", x -> x.order(-1), 0);
        asks(made, "the first of none", x -> x.order(0), -5);
        asks(made, "code", x -> x.code(0, -1), 0);
        asks(made, "the first of none", x -> x.code(0, 0), -5);
        asks(made, "who", x -> x.who(0, 0), 1);
        asks(made, "who", x -> x.who(0, 1), 0);
        asks(made, "heard", x -> x.heard(0), 0);
        asks(made, "cuts", x -> x.cuts(0), 0);
        asks(made, "giveUp", OneBell::giveUp, 0);
        asks(made, "free", OneBell::free, 0);
        asks(made, "clear", OneBell::clear, 0);
        asks(made, "read", OneBell::read, 0);
        asks(made, "open", OneBell::open, 0);
        asks(made, "damp as it is", x -> x.damp(0), 0);
    }

    private static void some() {
        says("a village of three things, two errands, two rules");
        Village made = RefusedTest::madeWithSome;
        wrongThings(made);
        wrongNumbersOfThings(made, 3);
        wrongSets(made, 8);
        wrongInches(made);
        wrongOthers(made);
        refused(made, "whole already", x -> x.rope(0, true), -3, NO);
        refused(made, "cut already", x -> x.rope(1, false), -3, NO);
        refused(made, "whole already", x -> x.rope(2, true), -3, NO);
        refused(made, "from 1", x -> x.from(1), -3, NO);
        refused(made, "alike", x -> x.both(1, 1, 1, 1), -2, BAD);
        refused(made, "alike", x -> x.both(0, 0, 0, 20), -2, BAD);
        asks(made, "no third", x -> x.order(2), -5);
        asks(made, "far on", x -> x.order(MOST), -5);
        asks(made, "damp as it is", x -> x.damp(1), 1);
        asksThatAnswer(made);
    }

    private static void full() {
        says("a village of five things, five errands, four rules, 200 bytes");
        Village made = RefusedTest::madeFull;
        wrongThings(made);
        wrongNumbersOfThings(made, 5);
        wrongSets(made, 32);
        wrongInches(made);
        wrongOthers(made);
        refused(made, "a 6th thing", x -> x.thing(0, 0, 1, 0), -4, FULL);
        refused(made, "a 6th thing", x -> x.thing(4, 9, 9, 9), -4, FULL);
        refused(made, "a 6th errand", x -> x.errand(0, 0), -4, FULL);
        refused(made, "a 6th errand", x -> x.errand(4, 20), -4, FULL);
        refused(made, "a 5th rule", x -> x.rule(0, 0, 0), -4, FULL);
        refused(made, "a 5th rule", x -> x.rule(4, 20, 31), -4, FULL);
        for (int n = 1; n <= 8; n++) {
            int bytes = n;
            refused(made, "a 201st byte", x -> x.type(-1L, bytes), -4, FULL);
        }
        for (int t = 0; t <= 4; t++) {
            int one = t;
            refused(made, "alike", x -> x.both(one, 1, one, 1), -2, BAD);
            refused(made, "as it is", x -> x.rope(one, one != 2), -3, NO);
        }
        asks(made, "no sixth", x -> x.order(5), -5);
        asksThatAnswer(made);
        asks(village("thing 1 0 1 1;", "damp 1; cut"), "a fault", OneBell::read, -21);
        asks(village("thing 1 0 1 1;", "thing 0 0 1 0;damp 1;thing 0 0 0 0;"), "a fault", OneBell::read, -41);
    }

    private static Village village(String read, String typed) {
        return () -> {
            OneBell x = village(read);
            x.pull(0, 1);
            x.image(1);
            typeText(x, typed);
            return x;
        };
    }

    // ---- wrong numbers, one at a time, all others as told

    private static void wrongThings(Village made) {
        int[][] asTold = {{0, 4}, {0, 9}, {1, 9}, {0, 9}};
        for (int which = 0; which < 4; which++) {
            for (int v : outside(asTold[which][0], asTold[which][1])) {
                int[] four = {0, 0, 1, 0};
                four[which] = v;
                refused(made, "thing with " + v, x -> x.thing(four[0], four[1], four[2], four[3]), -2, BAD);
            }
        }
        refused(made, "all four wrong", x -> x.thing(5, 10, 0, 10), -2, BAD);
    }

    private static void wrongNumbersOfThings(Village made, int things) {
        for (int t : outside(0, things - 1)) {
            refused(made, "rope of " + t, x -> x.rope(t, false), -2, BAD);
            refused(made, "rope of " + t, x -> x.rope(t, true), -2, BAD);
            refused(made, "pull of " + t, x -> x.pull(t, 5), -2, BAD);
            refused(made, "both of " + t, x -> x.both(t, 5, 0, 5), -2, BAD);
            refused(made, "both of " + t, x -> x.both(0, 5, t, 5), -2, BAD);
            refused(made, "both of " + t + " twice", x -> x.both(t, 5, t, 5), -2, BAD);
            refused(made, "would of " + t, x -> x.would(t, 5), -2, BAD);
            refused(made, "moves by " + t, x -> x.moves(t, 5, 0), -2, BAD);
            refused(made, "moves of " + t, x -> x.moves(0, 5, t), -2, BAD);
            refused(made, "errand of " + t, x -> x.errand(t, 5), -2, BAD);
            refused(made, "rule of " + t, x -> x.rule(t, 5, 0), -2, BAD);
            refused(made, "slack of " + t, x -> x.slack(t), -10, BAD);
            refused(made, "share of " + t, x -> x.share(t), -2, BAD);
        }
    }

    private static void wrongSets(Village made, int sets) {
        for (int set : outside(0, sets - 1)) {
            refused(made, "code to " + set, x -> x.code(set, -1), -10, BAD);
            refused(made, "code to " + set, x -> x.code(set, 0), -10, BAD);
            refused(made, "code to " + set + ", both wrong", x -> x.code(set, -2), -10, BAD);
            refused(made, "who of " + set, x -> x.who(set, 0), -10, BAD);
            refused(made, "who of " + set, x -> x.who(set, 1), -10, BAD);
            refused(made, "cuts of " + set, x -> x.cuts(set), -10, BAD);
            refused(made, "rule of " + set, x -> x.rule(0, 5, set), -2, BAD);
        }
    }

    private static void wrongInches(Village made) {
        for (int n : outside(0, 20)) {
            refused(made, "pull by " + n, x -> x.pull(0, n), -2, BAD);
            refused(made, "both by " + n, x -> x.both(0, n, 1, 5), -2, BAD);
            refused(made, "both by " + n, x -> x.both(0, 5, 1, n), -2, BAD);
            refused(made, "both by " + n + " twice", x -> x.both(0, n, 1, n), -2, BAD);
            refused(made, "would by " + n, x -> x.would(0, n), -2, BAD);
            refused(made, "moves by " + n, x -> x.moves(0, n, 1), -2, BAD);
            refused(made, "errand by " + n, x -> x.errand(0, n), -2, BAD);
            refused(made, "rule by " + n, x -> x.rule(0, n, 0), -2, BAD);
        }
    }

    private static void wrongOthers(Village made) {
        for (int v : outside(0, 9)) refused(made, "damp " + v, x -> x.damp(v), -2, BAD);
        for (int v : outside(1, 8)) refused(made, "type of " + v, x -> x.type(-1L, v), -2, BAD);
        for (int v : outside(0, 1)) {
            refused(made, "who, what " + v, x -> x.who(0, v), -10, BAD);
            refused(made, "part " + v, x -> x.part(v), -1000, BAD);
            refused(made, "image " + v, x -> x.image(v), -2, BAD);
            refused(made, "from " + v, x -> x.from(v), -2, BAD);
        }
        for (int v : outside(0, 2)) refused(made, "status " + v, x -> x.status(v), -1, BAD);
        for (int v : outside(0, 6)) refused(made, "count " + v, x -> x.count(v), -2, BAD);
        for (int v : new int[] {-2, -3, -10, LEAST + 1, LEAST}) {
            refused(made, "order " + v, x -> x.order(v), -10, BAD);
            refused(made, "code, i " + v, x -> x.code(0, v), -10, BAD);
        }
        for (int v : new int[] {-1, -2, LEAST + 1, LEAST}) refused(made, "heard " + v, x -> x.heard(v), -2, BAD);
    }

    /** The first numbers outside, and far ones; 32 and its like are those that a shift would take for 0. */
    private static List<Integer> outside(int least, int most) {
        List<Integer> all = new ArrayList<>(List.of(least - 1, most + 1));
        for (int v : OUTSIDE) {
            if ((v < least || v > most) && !all.contains(v)) all.add(v);
        }
        return all;
    }

    /** Calls that answer without a change, whatever they answer. */
    private static void asksThatAnswer(Village made) {
        changesNothing(made, "would", x -> x.would(0, 20), ASKED);
        changesNothing(made, "moves", x -> x.moves(0, 20, 1), ASKED);
        for (int i = -1; i <= 5; i++) {
            int at = i;
            changesNothing(made, "order", x -> x.order(at), ASKED);
            changesNothing(made, "code", x -> x.code(7, at), ASKED);
            changesNothing(made, "heard", x -> x.heard(at + 1), ASKED);
        }
        for (int s = 0; s < 8; s++) {
            int set = s;
            changesNothing(made, "code", x -> x.code(set, -1), ASKED);
            changesNothing(made, "code", x -> x.code(set, 3), ASKED);
            changesNothing(made, "who", x -> x.who(set, 0), ASKED);
            changesNothing(made, "who", x -> x.who(set, 1), ASKED);
            changesNothing(made, "cuts", x -> x.cuts(set), ASKED);
        }
        for (int t = 0; t < 3; t++) {
            int one = t;
            changesNothing(made, "slack", x -> x.slack(one), ASKED);
            changesNothing(made, "status", x -> x.status(one), ASKED);
        }
        for (int w = 0; w <= 6; w++) {
            int what = w;
            changesNothing(made, "count", x -> x.count(what), ASKED);
        }
        changesNothing(made, "giveUp", OneBell::giveUp, ASKED);
        changesNothing(made, "part", x -> x.part(0) + x.part(1), ASKED);
        changesNothing(made, "digest", OneBell::digest, ASKED);
        changesNothing(made, "open", OneBell::open, ASKED);
    }

    // ---- how it is held against one that was let alone

    private static void asks(Village made, String what, Call call, long answer) {
        due(what, changesNothing(made, what, call, ASKED), answer);
    }

    private static void refused(Village made, String what, Call call, long answer, int reason) {
        due(what, changesNothing(made, what, call, reason), answer);
    }

    private static long changesNothing(Village made, String what, Call call, int reason) {
        OneBell called = made.made();
        OneBell letAlone = made.made();
        long answer = call.on(called);
        for (int r = BAD; r <= FULL; r++) {
            due("status " + r + " behind " + what, called.status(r), letAlone.status(r) + (r == reason ? 1 : 0));
        }
        due("all behind " + what, unwound(called), unwound(letAlone));
        return answer;
    }

    /** Some 250 calls that are alike only if all that a village holds is. */
    private static String unwound(OneBell x) {
        StringBuilder all = new StringBuilder();
        lookAt(x, all);
        pullBack(x, all);
        for (int i = 0; i <= 1; i++) {
            all.append(" from ").append(x.from(i));
            tell(x, all);
            pullBack(x, all);
        }
        all.append(" read ").append(x.read());
        tell(x, all);
        // A text that was faulty ahead of its end is told by what its end is then.
        all.append(" type ").append(x.type(0x3b64616d7020333bL, 8)).append(' ').append(x.read());
        tell(x, all);
        all.append(" clear ").append(x.clear()).append(' ').append(x.read());
        tell(x, all);
        return all.toString();
    }

    private static void tell(OneBell x, StringBuilder all) {
        all.append(' ').append(x.digest());
        for (int what = 0; what <= 6; what++) all.append(' ').append(x.count(what));
        all.append(' ').append(x.open()).append(' ').append(x.part(0)).append('/').append(x.part(1));
    }

    private static void lookAt(OneBell x, StringBuilder all) {
        tell(x, all);
        int things = x.count(0);
        for (int t = 0; t < things; t++) all.append(' ').append(x.would(t, 9)).append(' ').append(x.slack(t));
        for (int i = -1; i < 5; i++) all.append(' ').append(x.order(i)).append(' ').append(x.heard(i + 1));
        for (int set = 0; set < 1 << Math.min(things, 3); set++) {
            all.append(' ').append(x.code(set, -1)).append(' ').append(x.who(set, 1)).append(' ').append(x.cuts(set));
        }
        all.append(' ').append(x.giveUp());
    }

    private static void pullBack(OneBell x, StringBuilder all) {
        for (int i = 0; i <= 10; i++) all.append(" undo ").append(x.undo()).append(' ').append(x.open());
    }
}
