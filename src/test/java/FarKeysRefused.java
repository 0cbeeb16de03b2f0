import java.util.ArrayList;
import java.util.List;
import java.util.NoSuchElementException;

/**
 * "What is refused answers as told and changes nothing": each refused call is made on an object in
 * several states, and then all that can be seen of that object is compared with one of the same state
 * on which the call was not made. Questions that are answered change nothing either.
 */
public final class FarKeysRefused {
    private static final int NONE = -1;
    private static final int HIDDEN = -1000000;
    private static final int LOW = Integer.MIN_VALUE;
    private static final int HIGH = Integer.MAX_VALUE;
    private static final int THROWN = -77;

    /** Three GUARDS, two SIGNS, a breath of 2; in some ways it OPENS, in some not. */
    private static final String LAND = "gp20t3;gt7;gp5;st10e1;st4e2o0v1;hd1;hg1d2;hs1d3;hs1g2;bw2";
    /** Another one, that waits on the TAPE: with it draws can be seen even where there are 40 NIGHTS. */
    private static final String NEXT = "gp1;gp2;gp3;gp4;st31e3;st32e3;st33e3;st34e3;se3;h;hs1g1d1;hs2g2d2;hs3g3d3;bn3w4";
    private static final String[] PLANS = {"a", "b", "c", "d", "a+3", "a|b", "a&b", "b+1"};

    private static final int NEW = 0;
    private static final int BARE = 1;
    private static final int SCENE = 2;
    private static final int FULL = 3;
    private static final String[] STATES = {"a new object", "no LAND", "a LAND", "all full"};
    private static final int ENDINGS = 3;

    private interface Call {
        long of(FarKeys k);
    }

    private static final List<List<Long>> untouched = new ArrayList<>();
    private static String sentence = "What is refused answers as told and changes nothing";
    private static int checks = 0;
    private static int wrong = 0;

    public static void main(String[] args) {
        for (int i = 0; i < STATES.length * ENDINGS; i++) untouched.add(portrait(stateOf(i / ENDINGS), i % ENDINGS));
        portraitsTellAll();
        texts();
        landAsked();
        waysAsked();
        plansAsked();
        scratchesAsked();
        fourthPart();
        nights();
        questionsChangeNothing();
        System.out.println(wrong == 0 ? "all " + checks + " checks hold" : wrong + " of " + checks + " checks do not hold");
        if (wrong != 0) System.exit(1);
    }

    // ---- states

    private static void feedText(FarKeys k, String text) {
        for (int from = 0; from < text.length(); from += 20) {
            int[] five = new int[5];
            for (int i = 0; i < 20; i++) {
                int b = from + i < text.length() ? text.charAt(from + i) : 0;
                five[i / 4] = five[i / 4] << 8 | b;
            }
            k.feed(five[0], five[1], five[2], five[3], five[4]);
        }
    }

    private static void tell(FarKeys k, int sort, String text) {
        feedText(k, text);
        if (k.text(sort) < 0) throw new IllegalStateException(text);
    }

    private static FarKeys stateOf(int state) {
        FarKeys k = new FarKeys();
        if (state == NEW) return k;
        for (int i = 0; i < (state == FULL ? 8 : 5); i++) tell(k, 1, PLANS[i]);
        k.seed(2026);
        if (state != BARE) {
            tell(k, 0, LAND);
            k.plan(0, 4);
            k.plan(2, 1);
            k.scratch(0, NONE, 14);
            for (int i = 0; i < 3; i++) k.night();
            k.image();
            // from here on all is other than in the IMAGE
            k.plan(0, 0);
            k.plan(1, 4);
            k.seed(1118);
            for (int i = 3; i < (state == FULL ? 40 : 6); i++) k.night();
            for (int i = 1; i < (state == FULL ? 10 : 4); i++) k.scratch(i % 3, i % 2 - 1, 12 + i / 3);
        }
        feedText(k, state == FULL ? " ".repeat(160 - NEXT.length()) + NEXT : NEXT);
        return k;
    }

    // ---- all that can be seen

    private static List<Long> portrait(FarKeys k, int ending) {
        List<Long> seen = new ArrayList<>();
        see(k, seen);
        ask(k, seen);
        if (ending == 0) seeNextLand(k, seen);
        if (ending == 1) seeImage(k, seen);
        if (ending == 2) seeUndone(k, seen);
        return seen;
    }

    private static void put(List<Long> seen, long... answers) {
        for (long answer : answers) seen.add(answer);
    }

    /** No count is asked twice: an object is used for 512 calls at most. */
    private static void see(FarKeys k, List<Long> seen) {
        int[] count = new int[9];
        for (int what = 0; what <= 8; what++) count[what] = k.count(what);
        for (int one : count) put(seen, one);
        put(seen, k.fault(0), k.fault(1));
        for (int g = 0; g < count[0]; g++) {
            for (int what = 0; what < 3; what++) put(seen, k.guard(g, what));
            for (int s = 0; s < count[1]; s++) put(seen, k.hears(g, s));
        }
        for (int s = 0; s < count[1]; s++) for (int what = 0; what < 4; what++) put(seen, k.sign(s, what));
        for (int n = 0; n < count[7]; n++) put(seen, k.opened(n), k.turned(n, 0), k.turned(n, 2));
        put(seen, k.fits(NONE), k.fits(0), k.fits(1), k.lies());
    }

    private static void ask(FarKeys k, List<Long> seen) {
        put(seen, k.ways(0), k.ways(1), k.odds(0), k.odds(1), k.near(0), k.near(1), k.enough(), k.idle(), k.deaf());
        put(seen, k.turnsAt(33, 0), k.turnsAt(21, 2), k.opens(33), k.opens(45), k.shift(1, 1), k.lossy(10));
        for (int g = 0; g < 3; g++) put(seen, k.when(g, 0), k.when(g, 2), k.gain(g), k.best(g, 0), k.waits(g, 1), k.thief(g, 1));
        put(seen, k.pair(0, 2, 0), k.pair(0, 2, 1), k.sure(0, 2), k.rest(0, 2, NONE), k.rest(0, 2, 0), k.rest(1, 0, NONE));
        put(seen, k.sets(NONE), k.sets(0), k.moment(0), k.moment(2), k.better(0, 0, 4), k.exact(0), k.exact(1), k.exact(2));
        put(seen, k.route(1, 0), k.route(1, 1), k.helper(0), k.helper(1));
    }

    /** The TAPE becomes the LAND: so each of its bytes is seen, and the draws are, and PLANS. */
    private static void seeNextLand(FarKeys k, List<Long> seen) {
        if (k.count(3) == 0) feedText(k, NEXT);
        put(seen, k.text(0));
        see(k, seen);
        for (int g = 0; g < 4; g++) put(seen, k.plan(g, g) ? 1 : 0);
        for (int n = 0; n < 6; n++) {
            put(seen, k.night());
            for (int g = 0; g < 4; g++) put(seen, k.turned(n, g));
        }
        for (int p = 0; p < 8; p++) put(seen, k.plan(0, p) ? 1 : 0, k.turnsAt(33333, 0));
        put(seen, k.back());
    }

    private static void seeImage(FarKeys k, List<Long> seen) {
        put(seen, k.back());
        see(k, seen);
        for (int i = 0; i < 4; i++) put(seen, k.night());
        see(k, seen);
        put(seen, k.undo(), k.undo(), k.undo(), k.undo(), k.undo(), k.night(), k.turned(2, 0), k.turned(2, 2));
    }

    private static void seeUndone(FarKeys k, List<Long> seen) {
        for (int i = 0; i < 3; i++) {
            put(seen, k.undo(), k.night());
            if (k.count(7) > 0) put(seen, k.turned(k.count(7) - 1, 0), k.turned(k.count(7) - 1, 2));
            put(seen, k.undo());
        }
    }

    /** Each change that a call can make is seen, or what follows would say nothing. */
    private static void portraitsTellAll() {
        isSeen("feed", k -> k.end(0) ? k.feed(0x67202020, 0, 0, 0, 0) : 0);
        isSeen("end", k -> k.end(k.count(3) - 1) ? 1 : 0);
        isSeen("text of a LAND", k -> k.text(0));
        isSeen("plan", k -> k.plan(1, 2) ? 1 : 0);
        isSeen("scratch", k -> k.undo() + (k.count(6) < 10 ? k.scratch(0, 0, 10) : 0));
        isSeen("night", k -> k.count(7) < 40 ? k.night() : k.undo());
        isSeen("seed", k -> k.seed(5) ? 1 : 0);
        isSeen("undo", k -> k.undo());
        isSeen("image", k -> k.image());
        isSeen("back", k -> k.back());
    }

    private static void isSeen(String what, Call call) {
        for (int state = SCENE; state <= FULL; state++) {
            boolean seen = false;
            for (int ending = 0; ending < ENDINGS; ending++) {
                FarKeys k = stateOf(state);
                call.of(k);
                seen |= !portrait(k, ending).equals(untouched.get(state * ENDINGS + ending));
            }
            due(what + " in " + STATES[state] + " is seen", seen ? 1 : 0, 1);
        }
    }

    private static void due(String what, long got, long want) {
        checks++;
        if (got != want) {
            wrong++;
            System.out.println("\"" + sentence + "\": " + what + " answered " + got + ", due is " + want);
        }
    }

    /** The call is refused so in this state, and changes nothing. */
    private static void refused(int state, String name, long want, Call call) {
        for (int ending = 0; ending < ENDINGS; ending++) {
            FarKeys k = stateOf(state);
            due(name + " in " + STATES[state], call.of(k), want);
            unchanged(k, state, ending, name);
        }
    }

    private static void unchanged(FarKeys k, int state, int ending, String name) {
        List<Long> want = untouched.get(state * ENDINGS + ending);
        List<Long> got = portrait(k, ending);
        checks++;
        if (got.equals(want)) return;
        wrong++;
        int at = 0;
        while (at < got.size() && at < want.size() && got.get(at).equals(want.get(at))) at++;
        System.out.println("\"" + sentence + "\": " + name + " in " + STATES[state] + " has changed what is seen, from answer " + at + " of ending " + ending + " on");
    }

    private static void refusedWithoutLand(String name, long want, Call call) {
        refused(NEW, name, want, call);
        refused(BARE, name, want, call);
    }

    private static void refusedWithLand(String name, long want, Call call) {
        refused(SCENE, name, want, call);
        refused(FULL, name, want, call);
    }

    private static void refusedAlways(String name, long want, Call call) {
        refusedWithoutLand(name, want, call);
        refusedWithLand(name, want, call);
    }

    private static long yes(boolean answer) {
        return answer ? 1 : 0;
    }

    private static final int[] NO_GUARDS = {LOW, -2, -1, 3, 4, HIGH};
    private static final int[] NO_SIGNS = {LOW, -2, -1, 2, 5, HIGH};
    private static final int[] NOT_TWO = {LOW, -1, 2, HIGH};
    private static final int[] NOT_THREE = {LOW, -1, 3, HIGH};
    /** Of ERRORS 1 and 2. */
    private static final int[] NO_OFFS = {LOW, -33, 0, 3, 13, 53, 30, 36, 133, 333, HIGH};

    // ---- promises 1 to 9

    private static void texts() {
        sentence = "Twenty bytes more come to the TAPE (of each number the highest first; bytes of 0 are left out): how many it has. NONE: more than 160";
        refused(FULL, "feed of one byte", NONE, k -> k.feed(0, 0, 0, 0, 1));
        refused(FULL, "feed of twenty bytes", NONE, k -> k.feed(0x61616161, 0x61616161, 0x61616161, 0x61616161, 0x61616161));
        refused(FULL, "feed of a byte in front", NONE, k -> k.feed(0x01000000, 0, 0, 0, 0));
        refused(FULL, "feed of a byte in the middle", NONE, k -> k.feed(0, 0, 0x00FF0000, 0, 0));
        sentence = "The TAPE has its first n bytes alone. False: n";
        for (int n : new int[] {LOW, -1, 161, HIGH}) refusedAlways("end(" + n + ")", 0, k -> yes(k.end(n)));
        refusedAlways("end(one more)", 0, k -> yes(k.end(k.count(3) + 1)));
        sentence = "The FAULT of the TAPE as a LAND (0), a PLAN (1). NONE: none. -2: no such sort";
        for (int sort : new int[] {LOW, -2, -1, 2, 3, HIGH}) refusedAlways("fault(" + sort + ")", -2, k -> k.fault(sort));
        sentence = "The TAPE (empty then) is the LAND (all that was of another one is gone but PLANS and draws; no GUARD has one): "
                + "how many GUARDS; a PLAN: its number. NONE: a FAULT, no such sort, there are eight";
        for (int sort : new int[] {LOW, -2, -1, 2, 3, HIGH}) refusedAlways("text(" + sort + ")", NONE, k -> k.text(sort));
        // the TAPE holds no PLAN; that of a new object nothing
        refusedAlways("text(1)", NONE, k -> k.text(1));
        refused(NEW, "text(0)", NONE, k -> k.text(0));
        faultyTexts();
    }

    /** A text with a FAULT is refused, and stays; the same is put on the TAPE of both objects. */
    private static void faultyTexts() {
        String[] lands = {"g;g", "g;g;s;", "g;g;g;g;s;g", "g;g;st60", "g;g;s;hs1", "g;g;s;h;h", "g;g;s;so0v2", "gp1p1;g;s", "g;g;s;b;b", "x"};
        String[] plans = {"f", "a+", "a+100", "(a", "(((((((a)))))))", "a&", "a)", ""};
        for (int state = NEW; state <= FULL; state++) {
            for (String text : lands) stays(state, 0, text);
            for (String text : plans) stays(state, 1, text);
        }
        // a ninth PLAN
        stays(FULL, 1, "a");
        stays(FULL, 1, "(a+12|b)&c");
    }

    private static void stays(int state, int sort, String text) {
        FarKeys k = stateOf(state);
        FarKeys twin = stateOf(state);
        k.end(0);
        twin.end(0);
        feedText(k, text);
        feedText(twin, text);
        due("text(" + sort + ") of '" + text + "' in " + STATES[state], k.text(sort), NONE);
        due("bytes of '" + text + "'", k.count(3), text.length());
        alike(k, twin, 1, "text(" + sort + ") of '" + text + "' in " + STATES[state]);
    }

    private static void alike(FarKeys k, FarKeys twin, int ending, String what) {
        checks++;
        if (!portrait(k, ending).equals(portrait(twin, ending))) {
            wrong++;
            System.out.println("\"" + sentence + "\": " + what + " has changed what is seen");
        }
    }

    private static long signOf(FarKeys k, int sign, int what) {
        try {
            return k.sign(sign, what);
        } catch (NoSuchElementException e) {
            return THROWN;
        }
    }

    private static void landAsked() {
        sentence = "Of a SIGN: 0 PARTS, 1 ERROR, 2 behind which it goes out (NONE), 3 who sends it. NoSuchElementException: no such ones";
        for (int what = 0; what < 4; what++) {
            int w = what;
            refusedWithoutLand("sign(0, " + w + ")", THROWN, k -> signOf(k, 0, w));
            for (int s : NO_SIGNS) refusedWithLand("sign(" + s + ", " + w + ")", THROWN, k -> signOf(k, s, w));
        }
        for (int what : new int[] {LOW, -1, 4, HIGH}) refusedWithLand("sign(0, " + what + ")", THROWN, k -> signOf(k, 0, what));
        sentence = "Of a GUARD: 0 PRIZE, 1 for TRYING, 2 its PLAN (NONE). NONE: no such ones";
        refusedWithoutLand("guard(0, 0)", NONE, k -> k.guard(0, 0));
        for (int g : NO_GUARDS) refusedWithLand("guard(" + g + ", 0)", NONE, k -> k.guard(g, 0));
        for (int what : NOT_THREE) refusedWithLand("guard(0, " + what + ")", NONE, k -> k.guard(0, what));
        sentence = "How much LATER a GUARD hears a SIGN. NONE: it does not, no such ones";
        refusedWithoutLand("hears(0, 0)", NONE, k -> k.hears(0, 0));
        refusedWithLand("hears(2, 0)", NONE, k -> k.hears(2, 0));
        for (int g : NO_GUARDS) refusedWithLand("hears(" + g + ", 0)", NONE, k -> k.hears(g, 0));
        for (int s : NO_SIGNS) refusedWithLand("hears(0, " + s + ")", NONE, k -> k.hears(0, s));
        sentence = "A PLAN of a GUARD (NONE: none). False: no such ones";
        refusedWithoutLand("plan(0, 0)", 0, k -> yes(k.plan(0, 0)));
        refusedWithoutLand("plan(0, -1)", 0, k -> yes(k.plan(0, NONE)));
        for (int g : NO_GUARDS) refusedWithLand("plan(" + g + ", 0)", 0, k -> yes(k.plan(g, 0)));
        for (int g : NO_GUARDS) refusedWithLand("plan(" + g + ", -1)", 0, k -> yes(k.plan(g, NONE)));
        for (int p : new int[] {LOW, -2, 8, HIGH}) refusedWithLand("plan(0, " + p + ")", 0, k -> yes(k.plan(0, p)));
        refused(SCENE, "plan(0, 5)", 0, k -> yes(k.plan(0, 5)));
    }

    // ---- promises 10 to 25

    private static void waysAsked() {
        sentence = "In how many ways it OPENS (0), of how many (1). NONE: no LAND, no such what";
        refusedWithoutLand("ways(0)", NONE, k -> k.ways(0));
        for (int what : NOT_TWO) refusedWithLand("ways(" + what + ")", NONE, k -> k.ways(what));
        sentence = "ODDS: above (0), below (1). NONE: no LAND, no such part";
        refusedWithoutLand("odds(1)", NONE, k -> k.odds(1));
        for (int what : NOT_TWO) refusedWithLand("odds(" + what + ")", NONE, k -> k.odds(what));
        sentence = "By OFFS (digits to the base 10: OFF and 3, SIGN 0 the highest): when a GUARD turns. HIDDEN: never, no such ones";
        refusedWithoutLand("turnsAt(33, 0)", HIDDEN, k -> k.turnsAt(33, 0));
        for (int g : NO_GUARDS) refusedWithLand("turnsAt(33, " + g + ")", HIDDEN, k -> k.turnsAt(33, g));
        for (int offs : NO_OFFS) refusedWithLand("turnsAt(" + offs + ", 0)", HIDDEN, k -> k.turnsAt(offs, 0));
        sentence = "By OFFS likewise: whether it OPENS (1, 0). NONE: no such OFFS, no LAND";
        refusedWithoutLand("opens(33)", NONE, k -> k.opens(33));
        for (int offs : NO_OFFS) refusedWithLand("opens(" + offs + ")", NONE, k -> k.opens(offs));
        sentence = "WHEN: the earliest (0), the latest (1; HIDDEN both: it never turns), in how many ways it never does (2). HIDDEN: no such ones";
        refusedWithoutLand("when(0, 2)", HIDDEN, k -> k.when(0, 2));
        for (int g : NO_GUARDS) refusedWithLand("when(" + g + ", 2)", HIDDEN, k -> k.when(g, 2));
        for (int what : NOT_THREE) refusedWithLand("when(0, " + what + ")", HIDDEN, k -> k.when(0, what));
        sentence = "NEAR: the least (0), the greatest (1). NONE: in no way NEED turn, no LAND, no such what";
        refusedWithoutLand("near(0)", NONE, k -> k.near(0));
        for (int what : NOT_TWO) refusedWithLand("near(" + what + ")", NONE, k -> k.near(what));
        sentence = "BREATH ENOUGH. NONE: none to 99, no LAND";
        refusedWithoutLand("enough()", NONE, k -> k.enough());
    }

    private static void plansAsked() {
        sentence = "BEST: the plan (0), in how many ways (1). NONE: no such ones";
        refusedWithoutLand("best(0, 0)", NONE, k -> k.best(0, 0));
        for (int g : NO_GUARDS) refusedWithLand("best(" + g + ", 0)", NONE, k -> k.best(g, 0));
        for (int what : NOT_TWO) refusedWithLand("best(0, " + what + ")", NONE, k -> k.best(0, what));
        sentence = "PAIR: 100 times the first one's and the other's (0), in how many ways (1). NONE: no such ones, alike, more than 400 ways";
        refusedWithoutLand("pair(0, 1, 0)", NONE, k -> k.pair(0, 1, 0));
        for (int[] two : noPairs()) refusedWithLand("pair(" + two[0] + ", " + two[1] + ", 0)", NONE, k -> k.pair(two[0], two[1], 0));
        for (int what : NOT_TWO) refusedWithLand("pair(0, 1, " + what + ")", NONE, k -> k.pair(0, 1, what));
        refusedInManyWays("pair(0, 1, 0)", k -> k.pair(0, 1, 0));
        sentence = "SURE. NONE: no such ones, alike, more than 400 ways";
        refusedWithoutLand("sure(0, 1)", NONE, k -> k.sure(0, 1));
        for (int[] two : noPairs()) refusedWithLand("sure(" + two[0] + ", " + two[1] + ")", NONE, k -> k.sure(two[0], two[1]));
        refusedInManyWays("sure(0, 1)", k -> k.sure(0, 1));
        sentence = "IDLE, as bits. NONE: no LAND";
        refusedWithoutLand("idle()", NONE, k -> k.idle());
        sentence = "SHIFT. NONE: no such SIGN, out of bounds";
        refusedWithoutLand("shift(0, 0)", NONE, k -> k.shift(0, 0));
        for (int s : NO_SIGNS) refusedWithLand("shift(" + s + ", 0)", NONE, k -> k.shift(s, 0));
        for (int by : new int[] {LOW, -10, 10, HIGH}) refusedWithLand("shift(0, " + by + ")", NONE, k -> k.shift(0, by));
        sentence = "WAIT: how much (0), in how many ways (1). NONE: no such ones";
        refusedWithoutLand("waits(0, 0)", NONE, k -> k.waits(0, 0));
        for (int g : NO_GUARDS) refusedWithLand("waits(" + g + ", 0)", NONE, k -> k.waits(g, 0));
        for (int what : NOT_TWO) refusedWithLand("waits(0, " + what + ")", NONE, k -> k.waits(0, what));
        sentence = "GAIN. NONE: no such GUARD";
        refusedWithoutLand("gain(0)", NONE, k -> k.gain(0));
        for (int g : NO_GUARDS) refusedWithLand("gain(" + g + ")", NONE, k -> k.gain(g));
        sentence = "REST: how many (i NONE), the i-th. NONE: no such ones, alike, more than 400 ways";
        refusedWithoutLand("rest(0, 1, -1)", NONE, k -> k.rest(0, 1, NONE));
        for (int[] two : noPairs()) refusedWithLand("rest(" + two[0] + ", " + two[1] + ", -1)", NONE, k -> k.rest(two[0], two[1], NONE));
        for (int i : new int[] {LOW, -2, 400, HIGH}) refusedWithLand("rest(0, 1, " + i + ")", NONE, k -> k.rest(0, 1, i));
        refusedWithLand("rest(0, 1, one more)", NONE, k -> k.rest(0, 1, k.rest(0, 1, NONE)));
        refusedInManyWays("rest(0, 1, -1)", k -> k.rest(0, 1, NONE));
        sentence = "THIEF: the plan (0), in how many ways (1). NONE: no such ones";
        refusedWithoutLand("thief(0, 0)", NONE, k -> k.thief(0, 0));
        for (int g : NO_GUARDS) refusedWithLand("thief(" + g + ", 0)", NONE, k -> k.thief(g, 0));
        for (int what : NOT_TWO) refusedWithLand("thief(0, " + what + ")", NONE, k -> k.thief(0, what));
    }

    /** One of them is no GUARD, or both are alike. */
    private static List<int[]> noPairs() {
        List<int[]> pairs = new ArrayList<>();
        for (int g : NO_GUARDS) {
            pairs.add(new int[] {g, 0});
            pairs.add(new int[] {0, g});
        }
        for (int g = 0; g < 3; g++) pairs.add(new int[] {g, g});
        return pairs;
    }

    /** The LAND on the TAPE has 16807 ways. */
    private static void refusedInManyWays(String name, Call call) {
        FarKeys k = nextLand();
        due("ways(1)", k.ways(1), 16807);
        due(name + " of 16807 ways", call.of(k), NONE);
        FarKeys twin = nextLand();
        twin.ways(1);
        alike(k, twin, 2, name + " of 16807 ways");
    }

    // ---- promises 26 to 36

    private static void scratchesAsked() {
        sentence = "A SCRATCH: a GUARD turned (sign NONE), or heard a SIGN, at a part: how many there are. NONE: no such ones, out of bounds, there are ten";
        refusedWithoutLand("scratch(0, -1, 0)", NONE, k -> k.scratch(0, NONE, 0));
        for (int g : NO_GUARDS) refusedWithLand("scratch(" + g + ", 0, 9)", NONE, k -> k.scratch(g, 0, 9));
        for (int s : NO_SIGNS) if (s != NONE) refusedWithLand("scratch(0, " + s + ", 9)", NONE, k -> k.scratch(0, s, 9));
        for (int part : new int[] {LOW, -100, 200, HIGH}) {
            refusedWithLand("scratch(0, 0, " + part + ")", NONE, k -> k.scratch(0, 0, part));
            refusedWithLand("scratch(0, -1, " + part + ")", NONE, k -> k.scratch(0, NONE, part));
        }
        refused(FULL, "scratch(0, 0, 11)", NONE, k -> k.scratch(0, 0, 11));
        refused(FULL, "scratch(2, -1, -99)", NONE, k -> k.scratch(2, NONE, -99));
        sentence = "FITS: how many ways (sign NONE), OFFS of a SIGN as bits. NONE: no such ones, no LAND";
        refusedWithoutLand("fits(-1)", NONE, k -> k.fits(NONE));
        for (int s : NO_SIGNS) if (s != NONE) refusedWithLand("fits(" + s + ")", NONE, k -> k.fits(s));
        sentence = "LIES, as bits. NONE: no LAND";
        refusedWithoutLand("lies()", NONE, k -> k.lies());
    }

    private static void fourthPart() {
        sentence = "SETS: how many (i NONE), the i-th. NONE: no such one, no LAND";
        refusedWithoutLand("sets(-1)", NONE, k -> k.sets(NONE));
        for (int i : new int[] {LOW, -2, 7, HIGH}) refusedWithLand("sets(" + i + ")", NONE, k -> k.sets(i));
        refusedWithLand("sets(one more)", NONE, k -> k.sets(k.sets(NONE)));
        sentence = "MOMENT: the earliest (0), the latest (1), the sum (2). HIDDEN: it never OPENS, no LAND, no such what";
        refusedWithoutLand("moment(0)", HIDDEN, k -> k.moment(0));
        for (int what : NOT_THREE) refusedWithLand("moment(" + what + ")", HIDDEN, k -> k.moment(what));
        sentence = "BETTER. HIDDEN: no such ones";
        refusedWithoutLand("better(0, 0, 0)", HIDDEN, k -> k.better(0, 0, 0));
        for (int g : NO_GUARDS) refusedWithLand("better(" + g + ", 0, 1)", HIDDEN, k -> k.better(g, 0, 1));
        for (int p : new int[] {LOW, -2, -1, 8, HIGH}) {
            refusedWithLand("better(0, " + p + ", 1)", HIDDEN, k -> k.better(0, p, 1));
            refusedWithLand("better(0, 1, " + p + ")", HIDDEN, k -> k.better(0, 1, p));
        }
        refused(SCENE, "better(0, 5, 0)", HIDDEN, k -> k.better(0, 5, 0));
        refused(SCENE, "better(0, 0, 5)", HIDDEN, k -> k.better(0, 0, 5));
        sentence = "EXACT: the SIGN (0), above (1), below (2). NONE: no LAND, no such what";
        refusedWithoutLand("exact(0)", NONE, k -> k.exact(0));
        for (int what : NOT_THREE) refusedWithLand("exact(" + what + ")", NONE, k -> k.exact(what));
        sentence = "LOSSY. NONE: no LAND, out of bounds";
        refusedWithoutLand("lossy(0)", NONE, k -> k.lossy(0));
        for (int risk : new int[] {LOW, -1, 101, HIGH}) refusedWithLand("lossy(" + risk + ")", NONE, k -> k.lossy(risk));
        sentence = "ROUTE: behind how many (0), together (1). NONE: no such ones";
        refusedWithoutLand("route(0, 0)", NONE, k -> k.route(0, 0));
        for (int s : NO_SIGNS) refusedWithLand("route(" + s + ", 0)", NONE, k -> k.route(s, 0));
        for (int what : NOT_TWO) refusedWithLand("route(0, " + what + ")", NONE, k -> k.route(0, what));
        sentence = "DEAF, as bits. NONE: no LAND";
        refusedWithoutLand("deaf()", NONE, k -> k.deaf());
        sentence = "HELPERS: which (0), in how many ways (1). NONE: all hear all, no LAND, no such what";
        refusedWithoutLand("helper(0)", NONE, k -> k.helper(0));
        for (int what : NOT_TWO) refusedWithLand("helper(" + what + ")", NONE, k -> k.helper(what));
    }

    // ---- promises 38 to 44

    private static void nights() {
        sentence = "A NIGHT: whether it OPENED (1, 0). NONE: no LAND, there are 40";
        refusedWithoutLand("night()", NONE, k -> k.night());
        refused(FULL, "night()", NONE, k -> k.night());
        refused(FULL, "night() twice", 2 * NONE, k -> k.night() + k.night());
        sentence = "Of a NIGHT: when a GUARD turned (HIDDEN: never; no such ones)";
        refusedWithoutLand("turned(0, 0)", HIDDEN, k -> k.turned(0, 0));
        for (int n : new int[] {LOW, -1, 40, 41, HIGH}) refusedAlways("turned(" + n + ", 0)", HIDDEN, k -> k.turned(n, 0));
        refusedAlways("turned(one more, 0)", HIDDEN, k -> k.turned(k.count(7), 0));
        for (int g : NO_GUARDS) refusedWithLand("turned(0, " + g + ")", HIDDEN, k -> k.turned(0, g));
        sentence = "Whether a NIGHT OPENED (1, 0). NONE: no such one";
        refusedWithoutLand("opened(0)", NONE, k -> k.opened(0));
        for (int n : new int[] {LOW, -1, 40, 41, HIGH}) refusedAlways("opened(" + n + ")", NONE, k -> k.opened(n));
        refusedAlways("opened(one more)", NONE, k -> k.opened(k.count(7)));
        sentence = "The latest NIGHT is UNDONE: how many there are. NONE: none";
        refusedWithoutLand("undo()", NONE, k -> k.undo());
        noNightToUndo();
        sentence = "An IMAGE (instead of the one ahead): how many NIGHTS. NONE: no LAND";
        refusedWithoutLand("image()", NONE, k -> k.image());
        sentence = "BACK: how many NIGHTS. NONE: no IMAGE of this LAND";
        refusedWithoutLand("back()", NONE, k -> k.back());
        noImageToGoBackTo();
        sentence = "0 GUARDS, 1 SIGNS, 2 PLANS, 3 bytes of the TAPE, 4 NEED, 5 BREATH (0 each without a LAND), 6 SCRATCHES, 7 NIGHTS, "
                + "8 in how many of these it OPENED. HIDDEN for others";
        for (int what : new int[] {LOW, -1, 9, HIGH}) refusedAlways("count(" + what + ")", HIDDEN, k -> k.count(what));
    }

    /** Behind an IMAGE of another LAND: back is refused, and PLANS, SCRATCHES, NIGHTS and draws stay. */
    private static void noImageToGoBackTo() {
        FarKeys k = nextLand();
        due("back() in another LAND", k.back(), NONE);
        alike(k, nextLand(), 2, "back() in another LAND");
    }

    private static FarKeys nextLand() {
        FarKeys k = stateOf(SCENE);
        k.text(0);
        for (int g = 0; g < 4; g++) k.plan(g, 3 - g);
        k.scratch(1, 1, 33);
        k.night();
        return k;
    }

    private static void noNightToUndo() {
        FarKeys k = stateOf(SCENE);
        FarKeys twin = stateOf(SCENE);
        for (int i = 0; i < 6; i++) due("undo()", k.undo(), 5 - i);
        for (int i = 0; i < 6; i++) twin.undo();
        due("undo() of none", k.undo(), NONE);
        due("undo() of none again", k.undo(), NONE);
        alike(k, twin, 0, "undo() of none");
    }

    // ---- what is answered and only asked

    private static void questionsChangeNothing() {
        sentence = "What is refused answers as told and changes nothing";
        for (int state = SCENE; state <= FULL; state++) {
            for (int ending = 0; ending < ENDINGS; ending++) {
                FarKeys k = stateOf(state);
                List<Long> seen = new ArrayList<>();
                see(k, seen);
                ask(k, seen);
                unchanged(k, state, ending, "all questions");
            }
            int s = state;
            isQuestion(s, "fault", k -> k.fault(0) + k.fault(1));
            isQuestion(s, "sign", k -> k.sign(1, 2));
            isQuestion(s, "guard", k -> k.guard(2, 2));
            isQuestion(s, "hears", k -> k.hears(1, 0));
            isQuestion(s, "ways", k -> k.ways(0));
            isQuestion(s, "odds", k -> k.odds(0));
            isQuestion(s, "turnsAt", k -> k.turnsAt(45, 1));
            isQuestion(s, "opens", k -> k.opens(21));
            isQuestion(s, "when", k -> k.when(0, 1));
            isQuestion(s, "near", k -> k.near(1));
            isQuestion(s, "enough", k -> k.enough());
            isQuestion(s, "best", k -> k.best(1, 0));
            isQuestion(s, "pair", k -> k.pair(1, 0, 0));
            isQuestion(s, "sure", k -> k.sure(1, 2));
            isQuestion(s, "idle", k -> k.idle());
            isQuestion(s, "shift", k -> k.shift(0, -9));
            isQuestion(s, "waits", k -> k.waits(2, 0));
            isQuestion(s, "gain", k -> k.gain(1));
            isQuestion(s, "rest", k -> k.rest(2, 1, 0));
            isQuestion(s, "thief", k -> k.thief(2, 0));
            isQuestion(s, "fits", k -> k.fits(1));
            isQuestion(s, "lies", k -> k.lies());
            isQuestion(s, "sets", k -> k.sets(NONE));
            isQuestion(s, "moment", k -> k.moment(1));
            isQuestion(s, "better", k -> k.better(2, 4, 2));
            isQuestion(s, "exact", k -> k.exact(1));
            isQuestion(s, "lossy", k -> k.lossy(99));
            isQuestion(s, "route", k -> k.route(1, 1));
            isQuestion(s, "deaf", k -> k.deaf());
            isQuestion(s, "helper", k -> k.helper(1));
            isQuestion(s, "turned", k -> k.turned(1, 1));
            isQuestion(s, "opened", k -> k.opened(5));
            isQuestion(s, "count", k -> k.count(8));
        }
    }

    private static void isQuestion(int state, String name, Call call) {
        for (int ending = 0; ending < ENDINGS; ending++) {
            FarKeys k = stateOf(state);
            call.of(k);
            unchanged(k, state, ending, name);
        }
    }
}
