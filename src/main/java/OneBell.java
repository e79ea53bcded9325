/** A village hung from one bell: what its document promises, by the document's own numbers. */
public final class OneBell {
    public static final int NONE = -1, BAD = -2, NO = -3, FULL = -4;

    private static final int NOT_SO_MANY = -5;
    private static final int BAD_SEARCH = -10;
    private static final int BAD_PART = -1000;
    private static final int BAD_STATUS = -1;
    private static final int FAULTS_FROM = -10;

    private static final int MOST_THINGS = 5;
    private static final int MOST_SETS = 1 << MOST_THINGS;
    private static final int MOST_ERRANDS = 5;
    private static final int MOST_ERRAND_SETS = 1 << MOST_ERRANDS;
    private static final int MOST_RULES = 4;
    private static final int MOST_PASTS = 10;
    private static final int MOST_IMAGES = 2;
    private static final int MOST_BYTES = 200;
    private static final int MOST_TYPED = 8;

    private static final int HIGHEST_KIND = 4;
    private static final int HIGHEST_SLACK = 9;
    private static final int HIGHEST_STOP = 9;
    private static final int HIGHEST_HARM = 9;
    private static final int HIGHEST_DAMP = 9;
    private static final int HIGHEST_INCHES = 20;
    private static final int TRAVEL_OF_A_RING = 3;

    private final Village now = new Village();
    private final Village[] images = new Village[MOST_IMAGES];
    private final int[] text = new int[MOST_BYTES];
    private int length = 0;
    private long above = 0;
    private long below = 1;
    private int bads = 0;
    private int nos = 0;
    private int fulls = 0;
    private final Swing swing;
    private final Day day;
    private final SlackSearch search;
    private final Reader reader;

    public OneBell() {
        Kinds kinds = new Kinds();
        swing = new Swing(kinds);
        day = new Day(new Swing(kinds));
        search = new SlackSearch(kinds);
        reader = new Reader();
    }

    // ---- a village

    public int thing(int kind, int slack, int stop, int harm) {
        boolean asTold = within(kind, 0, HIGHEST_KIND) && within(slack, 0, HIGHEST_SLACK)
            && within(stop, 1, HIGHEST_STOP) && within(harm, 0, HIGHEST_HARM);
        if (!asTold) return bad(BAD);
        if (now.things >= MOST_THINGS) return tooMany();
        now.addThing(kind, slack, stop, harm);
        return now.things - 1;
    }

    public int rope(int thing, boolean is) {
        if (!now.hasThing(thing)) return bad(BAD);
        if (has(now.whole, thing) == is) return refusedNow();
        now.whole ^= 1 << thing;
        return 1;
    }

    public int damp(int n) {
        if (!within(n, 0, HIGHEST_DAMP)) return bad(BAD);
        int was = now.damp;
        now.damp = n;
        return was;
    }

    public int type(long v, int n) {
        if (!within(n, 1, MOST_TYPED)) return bad(BAD);
        if (length + n > MOST_BYTES) return tooMany();
        for (int shift = 8 * (n - 1); shift >= 0; shift -= 8) {
            text[length] = (int) (v >>> shift) & 255;
            length++;
        }
        return length;
    }

    public int clear() {
        int had = length;
        length = 0;
        return had;
    }

    public int read() {
        boolean faultless = reader.takes(text, length);
        if (!faultless) return FAULTS_FROM - reader.start;
        now.becomeLike(reader.draft);
        return reader.items;
    }

    // ---- pulls

    public int pull(int thing, int n) {
        if (!isPull(thing, n)) return bad(BAD);
        swing.by(now, now.whole, thing, n, NONE, 0);
        return doSwing();
    }

    public int both(int p, int n, int q, int m) {
        if (!isPull(p, n) || !isPull(q, m) || p == q) return bad(BAD);
        swing.by(now, now.whole, p, n, q, m);
        return doSwing();
    }

    public int would(int thing, int n) {
        if (!isPull(thing, n)) return bad(BAD);
        swing.by(now, now.whole, thing, n, NONE, 0);
        return swing.behind(now.open);
    }

    public int open() {
        return now.open;
    }

    public int moves(int pulled, int n, int thing) {
        if (!isPull(pulled, n) || !now.hasThing(thing)) return bad(BAD);
        swing.by(now, now.whole, pulled, n, NONE, 0);
        return swing.moveOf(now, now.whole, thing);
    }

    public int undo() {
        if (now.pasts <= 0) return refusedNow();
        now.goBack();
        return 1;
    }

    // ---- errands

    public int errand(int thing, int n) {
        if (!isPull(thing, n)) return bad(BAD);
        if (now.errands >= MOST_ERRANDS) return tooMany();
        now.addErrand(thing, n);
        return now.errands - 1;
    }

    public int drop() {
        if (now.errands <= 0) return refusedNow();
        now.errands--;
        return now.errands;
    }

    public int order(int i) {
        if (i < NONE) return bad(BAD_SEARCH);
        if (i >= now.errands) return NOT_SO_MANY;
        day.findOrder(now);
        return i == NONE ? day.leastHarm : day.bestRow[i];
    }

    public int code(int set, int i) {
        if (!now.hasSet(set) || i < NONE) return bad(BAD_SEARCH);
        day.findCodes(now);
        int steps = day.steps[set];
        if (i == NONE || steps == NONE) return steps;
        return i >= steps ? NOT_SO_MANY : day.stepTo(set, i);
    }

    public int who(int set, int what) {
        if (!now.hasSet(set) || !within(what, 0, 1)) return bad(BAD_SEARCH);
        day.findEnds(now);
        return what == 0 ? day.howManyEndAt(set) : day.leastThatEndsAt(set);
    }

    public int heard(int r) {
        if (r < 0) return bad(BAD);
        day.look(now, now.whole);
        return day.thatRing(r);
    }

    public int cuts(int set) {
        if (!now.hasSet(set)) return bad(BAD_SEARCH);
        return day.fewestCuts(now, set);
    }

    // ---- slacks

    public int rule(int thing, int n, int set) {
        if (!isPull(thing, n) || !now.hasSet(set)) return bad(BAD);
        if (now.rules >= MOST_RULES) return tooMany();
        now.addRule(thing, n, set);
        return now.rules - 1;
    }

    public int free() {
        int were = now.rules;
        now.rules = 0;
        return were;
    }

    public int slack(int thing) {
        if (!now.hasThing(thing)) return bad(BAD_SEARCH);
        search.learn(now);
        return search.fitsWithout(0) ? search.row[thing] : NONE;
    }

    public int giveUp() {
        search.learn(now);
        return search.fewestGivenUp();
    }

    public int share(int thing) {
        if (!now.hasThing(thing)) return bad(BAD);
        day.findHarmOfRopes(now);
        day.weighShare(now.things, thing);
        keepFraction(day.shareAbove, day.shareBelow);
        return 1;
    }

    // ---- what there is

    public long part(int what) {
        if (!within(what, 0, 1)) return bad(BAD_PART);
        return what == 0 ? above : below;
    }

    public int image(int i) {
        if (!within(i, 0, MOST_IMAGES - 1)) return bad(BAD);
        if (images[i] == null) images[i] = new Village();
        images[i].becomeLike(now);
        return 1;
    }

    public int from(int i) {
        if (!within(i, 0, MOST_IMAGES - 1)) return bad(BAD);
        Village kept = images[i];
        if (kept == null) return refusedNow();
        now.becomeLike(kept);
        return 1;
    }

    public int status(int what) {
        switch (what) {
            case 0: return bads;
            case 1: return nos;
            case 2: return fulls;
            default: return bad(BAD_STATUS);
        }
    }

    public int count(int what) {
        if (!within(what, 0, 6)) return bad(BAD);
        return howMany(what);
    }

    public long digest() {
        long h = 773;
        for (int what = 0; what <= 6; what++) h = 31 * h + howMany(what);
        h = now.mixInto(h);
        h = 31 * h + above;
        return 31 * h + below;
    }

    // ---- what the calls share

    private static boolean within(int n, int least, int most) {
        return n >= least && n <= most;
    }

    private static boolean has(int set, int member) {
        return (set >> member & 1) != 0;
    }

    private boolean isPull(int thing, int n) {
        return now.hasThing(thing) && within(n, 0, HIGHEST_INCHES);
    }

    private int bad(int answer) {
        bads++;
        return answer;
    }

    private int refusedNow() {
        nos++;
        return NO;
    }

    private int tooMany() {
        fulls++;
        return FULL;
    }

    private int doSwing() {
        now.remember();
        now.open = swing.behind(now.open);
        return swing.rings();
    }

    private int howMany(int what) {
        switch (what) {
            case 0: return now.things;
            case 1: return Integer.bitCount(now.whole);
            case 2: return now.errands;
            case 3: return now.rules;
            case 4: return now.pasts;
            case 5: return length;
            default: return now.damp;
        }
    }

    private void keepFraction(int top, int bottom) {
        int divisor = Math.abs(top);
        int rest = bottom;
        // 64 is far above the steps that two ints can need.
        for (int step = 0; step < 64 && rest != 0; step++) {
            int next = divisor % rest;
            divisor = rest;
            rest = next;
        }
        if (divisor == 0) return;
        above = top / divisor;
        below = bottom / divisor;
    }

    /** Kind 0, and the one over all others. */
    private static class Door {
        boolean becomes(boolean was, int move, int stop) {
            return move >= stop;
        }
    }

    private static class Latch extends Door {
        boolean becomes(boolean was, int move, int stop) {
            return was || super.becomes(was, move, stop);
        }
    }

    private static final class Lid extends Door {
        boolean becomes(boolean was, int move, int stop) {
            return was && !super.becomes(was, move, stop);
        }
    }

    private static final class Wheel extends Latch {
        boolean becomes(boolean was, int move, int stop) {
            // Asked as of a wheel that was shut, a latch answers as a door does.
            return was != super.becomes(false, move, stop);
        }
    }

    private static final class Sluice extends Latch {
        private static final int TOO_FAR = 3;

        boolean becomes(boolean was, int move, int stop) {
            return move < stop + TOO_FAR && super.becomes(was, move, stop);
        }
    }

    /** One of each kind, since a static field may hold no objects. */
    private static final class Kinds {
        private final Door door = new Door();
        private final Latch latch = new Latch();
        private final Lid lid = new Lid();
        private final Wheel wheel = new Wheel();
        private final Sluice sluice = new Sluice();

        Door ofNumber(int kind) {
            switch (kind) {
                case 1: return latch;
                case 2: return lid;
                case 3: return wheel;
                case 4: return sluice;
                default: return door;
            }
        }
    }

    /** All that an image keeps and that a text that is read takes the place of. */
    private static final class Village {
        int things = 0;
        final int[] kind = new int[MOST_THINGS];
        final int[] slack = new int[MOST_THINGS];
        final int[] stop = new int[MOST_THINGS];
        final int[] harm = new int[MOST_THINGS];
        int whole = 0;
        int damp = 0;
        int open = 0;
        int errands = 0;
        final int[] errandThing = new int[MOST_ERRANDS];
        final int[] errandInches = new int[MOST_ERRANDS];
        int rules = 0;
        final int[] ruleThing = new int[MOST_RULES];
        final int[] ruleInches = new int[MOST_RULES];
        final int[] ruleSet = new int[MOST_RULES];
        int pasts = 0;
        private final int[] past = new int[MOST_PASTS];

        void becomeEmpty() {
            things = 0;
            whole = 0;
            damp = 0;
            open = 0;
            errands = 0;
            rules = 0;
            pasts = 0;
        }

        void becomeLike(Village other) {
            things = other.things;
            System.arraycopy(other.kind, 0, kind, 0, MOST_THINGS);
            System.arraycopy(other.slack, 0, slack, 0, MOST_THINGS);
            System.arraycopy(other.stop, 0, stop, 0, MOST_THINGS);
            System.arraycopy(other.harm, 0, harm, 0, MOST_THINGS);
            whole = other.whole;
            damp = other.damp;
            open = other.open;
            errands = other.errands;
            System.arraycopy(other.errandThing, 0, errandThing, 0, MOST_ERRANDS);
            System.arraycopy(other.errandInches, 0, errandInches, 0, MOST_ERRANDS);
            rules = other.rules;
            System.arraycopy(other.ruleThing, 0, ruleThing, 0, MOST_RULES);
            System.arraycopy(other.ruleInches, 0, ruleInches, 0, MOST_RULES);
            System.arraycopy(other.ruleSet, 0, ruleSet, 0, MOST_RULES);
            pasts = other.pasts;
            System.arraycopy(other.past, 0, past, 0, MOST_PASTS);
        }

        boolean hasThing(int thing) {
            return within(thing, 0, things - 1);
        }

        boolean hasSet(int set) {
            return within(set, 0, (1 << things) - 1);
        }

        void addThing(int itsKind, int itsSlack, int itsStop, int itsHarm) {
            if (things >= MOST_THINGS) return;
            kind[things] = itsKind;
            slack[things] = itsSlack;
            stop[things] = itsStop;
            harm[things] = itsHarm;
            whole |= 1 << things;
            things++;
        }

        void addErrand(int thing, int inches) {
            if (errands >= MOST_ERRANDS) return;
            errandThing[errands] = thing;
            errandInches[errands] = inches;
            errands++;
        }

        void addRule(int thing, int inches, int set) {
            if (rules >= MOST_RULES) return;
            ruleThing[rules] = thing;
            ruleInches[rules] = inches;
            ruleSet[rules] = set;
            rules++;
        }

        int slackInDamp(int thing) {
            return Math.max(0, slack[thing] - damp);
        }

        int harmOf(int set) {
            int sum = 0;
            for (int t = 0; t < things; t++) {
                if (has(set, t)) sum += harm[t];
            }
            return sum;
        }

        void remember() {
            if (pasts >= MOST_PASTS) {
                System.arraycopy(past, 1, past, 0, MOST_PASTS - 1);
                pasts = MOST_PASTS - 1;
            }
            past[pasts] = open;
            pasts++;
        }

        void goBack() {
            if (pasts <= 0) return;
            pasts--;
            open = past[pasts];
        }

        long mixInto(long digest) {
            long h = 31 * digest + open;
            for (int t = 0; t < things; t++) {
                h = 31 * h + kind[t];
                h = 31 * h + slack[t];
                h = 31 * h + stop[t];
                h = 31 * h + harm[t];
                h = 31 * h + (whole >> t & 1);
            }
            for (int e = 0; e < errands; e++) {
                h = 31 * h + errandThing[e];
                h = 31 * h + errandInches[e];
            }
            for (int r = 0; r < rules; r++) {
                h = 31 * h + ruleThing[r];
                h = 31 * h + ruleInches[r];
                h = 31 * h + ruleSet[r];
            }
            return h;
        }
    }

    /**
     * One swing of the clapper. What it does to a thing is one of four: shut it, open it, leave it, turn it
     * about; so two sets tell it for all states of the village: those whose state counts on, and those turned.
     */
    private static final class Swing {
        private final Kinds kinds;
        private int first = NONE;
        private int firstInches = 0;
        private int second = NONE;
        private int secondInches = 0;
        private int travel = 0;
        int counting = 0;
        int turned = 0;

        Swing(Kinds kinds) {
            this.kinds = kinds;
        }

        /** By one thing alone, q is NONE. */
        void by(Village village, int whole, int p, int n, int q, int m) {
            first = p;
            firstInches = n;
            second = q;
            secondInches = m;
            travel = travelBy(village, whole, p, n) + travelBy(village, whole, q, m);
            counting = 0;
            turned = 0;
            for (int t = 0; t < village.things; t++) {
                Door kind = kinds.ofNumber(village.kind[t]);
                int move = moveOf(village, whole, t);
                boolean fromShut = kind.becomes(false, move, village.stop[t]);
                boolean fromOpen = kind.becomes(true, move, village.stop[t]);
                if (fromShut) turned |= 1 << t;
                if (fromShut != fromOpen) counting |= 1 << t;
            }
        }

        int rings() {
            return travel / TRAVEL_OF_A_RING;
        }

        int behind(int open) {
            return (open & counting) ^ turned;
        }

        int moveOf(Village village, int whole, int thing) {
            if (thing == first) return firstInches;
            if (thing == second) return secondInches;
            if (!has(whole, thing)) return 0;
            return Math.max(0, travel - village.slackInDamp(thing));
        }

        private static int travelBy(Village village, int whole, int thing, int inches) {
            if (thing == NONE || !has(whole, thing)) return 0;
            return Math.max(0, inches - village.slackInDamp(thing));
        }
    }

    /** The errands of a village: what each does, and what is found by doing them in thought. */
    private static final class Day {
        private static final int ABOVE_ALL_HARM = 1000000;
        private static final int[] FACTORIAL = {1, 1, 2, 6, 24, 120};

        private final Swing swing;
        private int errands = 0;
        private final int[] counting = new int[MOST_ERRANDS];
        private final int[] turned = new int[MOST_ERRANDS];
        private final int[] rings = new int[MOST_ERRANDS];

        int leastHarm = 0;
        final int[] bestRow = new int[MOST_ERRANDS];
        private final int[] row = new int[MOST_ERRANDS];

        final int[] steps = new int[MOST_SETS];
        private final int[] cameFrom = new int[MOST_SETS];
        private final int[] cameBy = new int[MOST_SETS];
        private final int[] waiting = new int[MOST_SETS];

        private final int[] ends = new int[MOST_ERRAND_SETS];

        int shareAbove = 0;
        int shareBelow = 1;
        private final int[] harmOfRopes = new int[MOST_SETS];

        Day(Swing swing) {
            this.swing = swing;
        }

        void look(Village village, int whole) {
            errands = village.errands;
            for (int e = 0; e < errands; e++) {
                swing.by(village, whole, village.errandThing[e], village.errandInches[e], NONE, 0);
                counting[e] = swing.counting;
                turned[e] = swing.turned;
                rings[e] = swing.rings();
            }
        }

        private int behind(int errand, int open) {
            return (open & counting[errand]) ^ turned[errand];
        }

        void findOrder(Village village) {
            look(village, village.whole);
            leastHarm = ABOVE_ALL_HARM;
            findRest(village, 0, 0, village.open, 0);
        }

        /** Rows come by rising numbers, so one that is only as good as an earlier one is not wanted. */
        private void findRest(Village village, int place, int done, int open, int harm) {
            if (place >= errands) {
                leastHarm = harm;
                System.arraycopy(row, 0, bestRow, 0, MOST_ERRANDS);
                return;
            }
            for (int e = 0; e < errands; e++) {
                if (has(done, e)) continue;
                int then = behind(e, open);
                int harmThen = harm + village.harmOf(then & ~open);
                if (harmThen >= leastHarm) continue;
                row[place] = e;
                findRest(village, place + 1, done | 1 << e, then, harmThen);
            }
        }

        /** Sets wait in the order of their first rows, so the first way that comes to a set is its first row. */
        void findCodes(Village village) {
            look(village, village.whole);
            for (int set = 0; set < MOST_SETS; set++) steps[set] = NONE;
            steps[village.open] = 0;
            waiting[0] = village.open;
            int known = 1;
            for (int next = 0; next < known && next < MOST_SETS; next++) {
                int set = waiting[next];
                for (int e = 0; e < errands; e++) {
                    int then = behind(e, set);
                    if (steps[then] != NONE || known >= MOST_SETS) continue;
                    steps[then] = steps[set] + 1;
                    cameFrom[then] = set;
                    cameBy[then] = e;
                    waiting[known] = then;
                    known++;
                }
            }
        }

        int stepTo(int set, int i) {
            int at = set;
            for (int step = steps[set] - 1; step > i; step--) at = cameFrom[at];
            return cameBy[at];
        }

        void findEnds(Village village) {
            look(village, village.whole);
            ends[0] = village.open;
            for (int e = 0; e < errands; e++) {
                for (int lower = 0; lower < 1 << e; lower++) ends[lower | 1 << e] = behind(e, ends[lower]);
            }
        }

        int howManyEndAt(int set) {
            int sum = 0;
            for (int done = 0; done < 1 << errands; done++) {
                if (ends[done] == set) sum++;
            }
            return sum;
        }

        int leastThatEndsAt(int set) {
            for (int done = 0; done < 1 << errands; done++) {
                if (ends[done] == set) return done;
            }
            return NONE;
        }

        int thatRing(int times) {
            int set = 0;
            for (int e = 0; e < errands; e++) {
                if (rings[e] == times) set |= 1 << e;
            }
            return set;
        }

        int fewestCuts(Village village, int guarded) {
            int best = NONE;
            int fewest = MOST_THINGS + 1;
            for (int cut = 0; cut < 1 << village.things; cut++) {
                if ((cut & ~village.whole) != 0 || Integer.bitCount(cut) >= fewest) continue;
                look(village, village.whole & ~cut);
                if (anyOpens(guarded & ~village.open, village.open)) continue;
                best = cut;
                fewest = Integer.bitCount(cut);
            }
            return best;
        }

        private boolean anyOpens(int shut, int open) {
            for (int e = 0; e < errands; e++) {
                if ((behind(e, open) & shut) != 0) return true;
            }
            return false;
        }

        void findHarmOfRopes(Village village) {
            for (int whole = 0; whole < 1 << village.things; whole++) {
                look(village, whole);
                int sum = 0;
                for (int e = 0; e < errands; e++) sum += village.harmOf(behind(e, 0));
                harmOfRopes[whole] = sum;
            }
        }

        /** The orders in which just some ropes come ahead of this one are counted, not gone through. */
        void weighShare(int things, int thing) {
            shareAbove = 0;
            shareBelow = FACTORIAL[things];
            for (int ahead = 0; ahead < 1 << things; ahead++) {
                if (has(ahead, thing)) continue;
                int many = Integer.bitCount(ahead);
                int orders = FACTORIAL[many] * FACTORIAL[things - 1 - many];
                shareAbove += orders * (harmOfRopes[ahead | 1 << thing] - harmOfRopes[ahead]);
            }
        }
    }

    /**
     * Looks for slacks that keep the rules. With whole ropes and no damp the move of a thing is the inches less
     * the sum of two slacks, its own and the pulled one's; so a rule tells, for each pair, which sums may be.
     */
    private static final class SlackSearch {
        private static final int SUMS = 2 * HIGHEST_SLACK + 1;
        private static final int ALL_SUMS = (1 << SUMS) - 1;
        private static final int ALL_SLACKS = (1 << HIGHEST_SLACK + 1) - 1;
        // Each sweep but the last strikes out one slack of one thing at least.
        private static final int MOST_SWEEPS = MOST_THINGS * (HIGHEST_SLACK + 1) + 1;

        private final Kinds kinds;
        private int things = 0;
        private int rules = 0;
        private final int[] pulled = new int[MOST_RULES];
        private final boolean[] canBe = new boolean[MOST_RULES];
        private final int[] sumsByRule = new int[MOST_RULES * MOST_THINGS];
        private final int[] sumsByPair = new int[MOST_THINGS * MOST_THINGS];
        private final int[] left = new int[MOST_THINGS * MOST_THINGS];
        final int[] row = new int[MOST_THINGS];

        SlackSearch(Kinds kinds) {
            this.kinds = kinds;
        }

        void learn(Village village) {
            things = village.things;
            rules = village.rules;
            for (int r = 0; r < rules; r++) {
                int t = village.ruleThing[r];
                pulled[r] = t;
                canBe[r] = isSo(village, r, t, 0);
                for (int other = 0; other < things; other++) {
                    sumsByRule[r * MOST_THINGS + other] = sumsFor(village, r, other);
                }
            }
        }

        private int sumsFor(Village village, int rule, int thing) {
            int sums = 0;
            for (int sum = 0; sum < SUMS; sum++) {
                if (isSo(village, rule, thing, sum)) sums |= 1 << sum;
            }
            return sums;
        }

        private boolean isSo(Village village, int rule, int thing, int sum) {
            int move = Math.max(0, village.ruleInches[rule] - sum);
            boolean opens = kinds.ofNumber(village.kind[thing]).becomes(false, move, village.stop[thing]);
            return opens == has(village.ruleSet[rule], thing);
        }

        int fewestGivenUp() {
            int best = (1 << rules) - 1;
            for (int without = 0; without < 1 << rules; without++) {
                boolean fewer = without == 0 || Integer.bitCount(without) < Integer.bitCount(best);
                if (fewer && fitsWithout(without)) best = without;
            }
            return best;
        }

        boolean fitsWithout(int givenUp) {
            for (int pair = 0; pair < MOST_THINGS * MOST_THINGS; pair++) sumsByPair[pair] = ALL_SUMS;
            for (int r = 0; r < rules; r++) {
                if (has(givenUp, r)) continue;
                if (!canBe[r]) return false;
                narrowPairs(r);
            }
            for (int t = 0; t < things; t++) left[t] = ALL_SLACKS;
            return strikesOut() && fitsFrom(0);
        }

        private void narrowPairs(int rule) {
            int p = pulled[rule];
            for (int t = 0; t < things; t++) {
                if (t == p) continue;
                int sums = sumsByRule[rule * MOST_THINGS + t];
                sumsByPair[p * MOST_THINGS + t] &= sums;
                sumsByPair[t * MOST_THINGS + p] &= sums;
            }
        }

        /** Slacks that no slack of some other thing fits go first: without it the search may take 50 times as long. */
        private boolean strikesOut() {
            boolean changed = true;
            for (int sweep = 0; sweep < MOST_SWEEPS && changed; sweep++) {
                changed = false;
                for (int t = 0; t < things; t++) {
                    int rest = fittedBySome(t);
                    if (rest == 0) return false;
                    changed = changed || rest != left[t];
                    left[t] = rest;
                }
            }
            return true;
        }

        private int fittedBySome(int thing) {
            int rest = left[thing];
            for (int other = 0; other < things; other++) {
                if (other == thing) continue;
                int sums = sumsByPair[thing * MOST_THINGS + other];
                for (int slack = 0; slack <= HIGHEST_SLACK; slack++) {
                    if ((sums >> slack & left[other]) == 0) rest &= ~(1 << slack);
                }
            }
            return rest;
        }

        private boolean fitsFrom(int thing) {
            if (thing >= things) return true;
            int choices = left[thing * MOST_THINGS + thing];
            for (int slack = 0; slack <= HIGHEST_SLACK; slack++) {
                if (!has(choices, slack) || !leavesSome(thing, slack)) continue;
                row[thing] = slack;
                if (fitsFrom(thing + 1)) return true;
            }
            return false;
        }

        /** What is left for the later things is narrowed at once: most rows are given up early by it. */
        private boolean leavesSome(int thing, int slack) {
            for (int later = thing + 1; later < things; later++) {
                int fitting = sumsByPair[thing * MOST_THINGS + later] >> slack;
                int rest = left[thing * MOST_THINGS + later] & fitting;
                if (rest == 0) return false;
                left[(thing + 1) * MOST_THINGS + later] = rest;
            }
            return true;
        }
    }

    /** Reads a text into a draft, token by token; where it stops short, the last token's place is the fault. */
    private static final class Reader {
        private static final int END = 0, WORD = 1, NUMBER = 2, ENDS_ITEM = 3, NO_TOKEN = 4;
        private static final int MOST_FIGURES = 2;

        final Village draft = new Village();
        int items = 0;
        int start = 0;
        private int[] text = new int[0];
        private int length = 0;
        private int at = 0;
        private int token = END;
        private int number = 0;
        private final int[] numbers = new int[4];

        boolean takes(int[] bytes, int many) {
            text = bytes;
            length = Math.min(many, bytes.length);
            at = 0;
            items = 0;
            draft.becomeEmpty();
            for (int item = 0; item <= length; item++) {
                nextToken();
                if (token == END) return true;
                if (!takesItem() || !takesEndOfItem()) return false;
                items++;
            }
            return false;
        }

        private boolean takesItem() {
            if (isWord("thing")) return takesThing();
            if (isWord("cut")) return takesCut();
            if (isWord("damp")) return takesDamp();
            if (isWord("errand")) return takesErrand();
            if (isWord("rule")) return takesRule();
            return false;
        }

        private boolean takesThing() {
            boolean so = draft.things < MOST_THINGS && takesNumber(0, 0, HIGHEST_KIND)
                && takesNumber(1, 0, HIGHEST_SLACK) && takesNumber(2, 1, HIGHEST_STOP)
                && takesNumber(3, 0, HIGHEST_HARM);
            if (so) draft.addThing(numbers[0], numbers[1], numbers[2], numbers[3]);
            return so;
        }

        private boolean takesCut() {
            if (!takesNumber(0, 0, draft.things - 1) || !has(draft.whole, numbers[0])) return false;
            draft.whole ^= 1 << numbers[0];
            return true;
        }

        private boolean takesDamp() {
            if (!takesNumber(0, 0, HIGHEST_DAMP)) return false;
            draft.damp = numbers[0];
            return true;
        }

        private boolean takesErrand() {
            boolean so = draft.errands < MOST_ERRANDS && takesNumber(0, 0, draft.things - 1)
                && takesNumber(1, 0, HIGHEST_INCHES);
            if (so) draft.addErrand(numbers[0], numbers[1]);
            return so;
        }

        private boolean takesRule() {
            boolean so = draft.rules < MOST_RULES && takesNumber(0, 0, draft.things - 1)
                && takesNumber(1, 0, HIGHEST_INCHES) && takesNumber(2, 0, (1 << draft.things) - 1);
            if (so) draft.addRule(numbers[0], numbers[1], numbers[2]);
            return so;
        }

        private boolean takesNumber(int place, int least, int most) {
            nextToken();
            if (token != NUMBER || !within(number, least, most)) return false;
            numbers[place] = number;
            return true;
        }

        private boolean takesEndOfItem() {
            nextToken();
            return token == ENDS_ITEM;
        }

        private void nextToken() {
            start = endOfRun(at, ' ', ' ');
            at = start;
            if (start >= length) {
                token = END;
            } else if (text[start] >= 'a' && text[start] <= 'z') {
                token = WORD;
                at = endOfRun(start, 'a', 'z');
            } else if (text[start] >= '0' && text[start] <= '9') {
                at = endOfRun(start, '0', '9');
                takeFigures();
            } else {
                token = text[start] == ';' ? ENDS_ITEM : NO_TOKEN;
                at = start + 1;
            }
        }

        private int endOfRun(int from, char least, char most) {
            int end = from;
            while (end < length && text[end] >= least && text[end] <= most) end++;
            return end;
        }

        private void takeFigures() {
            token = at - start <= MOST_FIGURES ? NUMBER : NO_TOKEN;
            number = 0;
            for (int i = start; i < at && i < start + MOST_FIGURES; i++) number = 10 * number + text[i] - '0';
        }

        private boolean isWord(String word) {
            if (at - start != word.length()) return false;
            for (int i = 0; i < word.length(); i++) {
                if (text[start + i] != word.charAt(i)) return false;
            }
            return true;
        }
    }
}
