import java.math.BigInteger;
import java.util.NoSuchElementException;

/**
 * The boundaries of all that is asked of a LAND (the document's ==== 2 to ==== 4 and its promises 1
 * and 6 to 44): each sentence that names one by itself, with the case just inside, on it and just
 * outside. Most LANDS here are so small that what is due can be read off their text.
 */
public final class FarKeysBounds {
    private static final int NONE = -1;
    private static final int HIDDEN = -1000000;
    private static final int LOW = Integer.MIN_VALUE;
    private static final int HIGH = Integer.MAX_VALUE;

    private static String sentence = "";
    private static int checks = 0;
    private static int wrong = 0;

    private static void due(String call, long got, long want) {
        checks++;
        if (got != want) {
            wrong++;
            System.out.println("\"" + sentence + "\": " + call + " answered " + got + ", due is " + want);
        }
    }

    private static void due(String call, boolean got, boolean want) {
        due(call, got ? 1 : 0, want ? 1 : 0);
    }

    private static void feedText(FarKeys k, String text) {
        for (int from = 0; from < text.length(); from += 20) {
            int[] five = new int[5];
            for (int i = 0; i < 20; i++) {
                int b = from + i < text.length() ? text.charAt(from + i) : 0;
                five[i / 4] = five[i / 4] << 8 | b;
            }
            k.feed(five[0], five[1], five[2], five[3], five[4]);
        }
    }

    private static int tell(FarKeys k, int sort, String text) {
        k.end(0);
        feedText(k, text);
        return k.text(sort);
    }

    /** A LAND, and of each GUARD its PLAN (empty: none), told in their order. */
    private static FarKeys land(String text, String... plans) {
        FarKeys k = new FarKeys();
        due("text of " + text, tell(k, 0, text) >= 2, true);
        for (int guard = 0; guard < plans.length; guard++) turnBy(k, guard, plans[guard]);
        return k;
    }

    private static void turnBy(FarKeys k, int guard, String plan) {
        int number = plan.isEmpty() ? NONE : tell(k, 1, plan);
        due("text of " + plan, plan.isEmpty() || number >= 0, true);
        due("plan(" + guard + ", " + number + ")", k.plan(guard, number), true);
    }

    public static void main(String[] args) {
        withoutALand();
        signsAsked();
        guardsAsked();
        hearingAsked();
        offsOfASign();
        allWays();
        offsOfSeveralSigns();
        partsBelowZero();
        signsThatAreNeverThere();
        turnsByLetters();
        latestAndEarliest();
        neverIsNotBelowZero();
        withinABreath();
        needOfTooMany();
        oddsMadePlain();
        whenTurned();
        askedAgain();
        nearest();
        breathEnough();
        simplePlansOfOne();
        lowestOfSeveral();
        simplePlansOfTwo();
        moreThanFourHundredWays();
        idleSigns();
        shifted();
        waiting();
        gains();
        rests();
        thieves();
        scratchesAtMost();
        scratchesWithinBounds();
        fitting();
        lying();
        setsOfGuards();
        moments();
        betterPlans();
        exactSigns();
        lossySigns();
        routes();
        deafGuards();
        helpers();
        draws();
        nightsAtMost();
        nightsAsked();
        nightsUndone();
        images();
        counts();
        allCallsOfOneObject();
        System.out.println(wrong == 0 ? "all " + checks + " checks hold" : wrong + " of " + checks + " checks do not hold");
        if (wrong != 0) System.exit(1);
    }

    private static final int[] FEW = {LOW, -2, -1, 0, 1, 2, 3, 4, 5, 9, 10, 40, HIGH};

    private static void withoutALand() {
        sentence = "FarKeys(): No LAND";
        FarKeys k = new FarKeys();
        tell(k, 1, "a");
        for (int a : FEW) {
            due("guard(" + a + ", 0)", k.guard(a, 0), NONE);
            due("hears(" + a + ", 0)", k.hears(a, 0), NONE);
            due("plan(" + a + ", 0)", k.plan(a, 0), false);
            due("plan(" + a + ", -1)", k.plan(a, NONE), false);
            due("ways(" + a + ")", k.ways(a), NONE);
            due("odds(" + a + ")", k.odds(a), NONE);
            due("turnsAt(" + a + ", 0)", k.turnsAt(a, 0), HIDDEN);
            due("opens(" + a + ")", k.opens(a), NONE);
            due("when(" + a + ", 2)", k.when(a, 2), HIDDEN);
            due("near(" + a + ")", k.near(a), NONE);
            due("best(" + a + ", 1)", k.best(a, 1), NONE);
            due("pair(" + a + ", 1, 1)", k.pair(a, 1, 1), NONE);
            due("sure(" + a + ", 1)", k.sure(a, 1), NONE);
            due("shift(" + a + ", 0)", k.shift(a, 0), NONE);
            due("waits(" + a + ", 1)", k.waits(a, 1), NONE);
            due("gain(" + a + ")", k.gain(a), NONE);
            due("rest(" + a + ", 1, -1)", k.rest(a, 1, NONE), NONE);
            due("thief(" + a + ", 1)", k.thief(a, 1), NONE);
            due("scratch(" + a + ", -1, 0)", k.scratch(a, NONE, 0), NONE);
            due("fits(" + a + ")", k.fits(a), NONE);
            due("sets(" + a + ")", k.sets(a), NONE);
            due("moment(" + a + ")", k.moment(a), HIDDEN);
            due("better(" + a + ", 0, 0)", k.better(a, 0, 0), HIDDEN);
            due("exact(" + a + ")", k.exact(a), NONE);
            due("lossy(" + a + ")", k.lossy(a), NONE);
            due("route(" + a + ", 0)", k.route(a, 0), NONE);
            due("helper(" + a + ")", k.helper(a), NONE);
            due("turned(" + a + ", 0)", k.turned(a, 0), HIDDEN);
            due("opened(" + a + ")", k.opened(a), NONE);
            due("sign(" + a + ", 0) throws", throwsOn(k, a, 0), true);
        }
        due("enough()", k.enough(), NONE);
        due("idle()", k.idle(), NONE);
        due("lies()", k.lies(), NONE);
        due("deaf()", k.deaf(), NONE);
        due("night()", k.night(), NONE);
        due("undo()", k.undo(), NONE);
        due("image()", k.image(), NONE);
        due("back()", k.back(), NONE);
    }

    private static boolean throwsOn(FarKeys k, int sign, int what) {
        try {
            k.sign(sign, what);
        } catch (NoSuchElementException e) {
            return true;
        }
        return false;
    }

    private static void signsAsked() {
        sentence = "NoSuchElementException: no such ones";
        for (int signs = 1; signs <= 5; signs++) {
            FarKeys k = land("g;g" + ";s".repeat(signs));
            for (int s : FEW)
                for (int what : FEW) {
                    boolean fine = s >= 0 && s < signs && what >= 0 && what <= 3;
                    due("sign(" + s + ", " + what + ") of " + signs + " throws", throwsOn(k, s, what), !fine);
                }
        }
    }

    private static void guardsAsked() {
        sentence = "Of a GUARD: 0 PRIZE, 1 for TRYING, 2 its PLAN (NONE). NONE: no such ones";
        for (int guards = 2; guards <= 4; guards++) {
            FarKeys k = land("s" + ";gp5t6".repeat(guards), "a");
            for (int g : FEW)
                for (int what : FEW) {
                    int want = what == 0 ? 5 : what == 1 ? 6 : what == 2 && g == 0 ? 0 : NONE;
                    due("guard(" + g + ", " + what + ")", k.guard(g, what), g >= 0 && g < guards ? want : NONE);
                }
        }
    }

    private static void hearingAsked() {
        sentence = "How much LATER a GUARD hears a SIGN. NONE: it does not, no such ones";
        FarKeys k = land("g;g;s;s;hd9;hs1g1");
        for (int g : FEW)
            for (int s : FEW) due("hears(" + g + ", " + s + ")", k.hears(g, s), g == 0 && s == 0 ? 9 : g == 1 && s == 1 ? 0 : NONE);
    }

    // ---- ==== 2

    private static void offsOfASign() {
        sentence = "Each SIGN has an OFF, from - ERROR to ERROR";
        for (int error = 0; error <= 3; error++) {
            FarKeys k = land("g;g;st20e" + error + ";h;hg1", "a", "a");
            due("ways(1)", k.ways(1), 2 * error + 1);
            due("ways(0)", k.ways(0), 2 * error + 1);
            due("ways(2)", k.ways(2), NONE);
            due("ways(-1)", k.ways(-1), NONE);
            for (int digit = -12; digit <= 120; digit++) {
                boolean fine = digit >= 3 - error && digit <= 3 + error;
                due("turnsAt(" + digit + ", 0)", k.turnsAt(digit, 0), fine ? 17 + digit : HIDDEN);
                due("opens(" + digit + ")", k.opens(digit), fine ? 1 : NONE);
            }
        }
    }

    private static void allWays() {
        sentence = "of each SIGN all OFFS (2 ERROR and 1), each with each";
        for (int errors = 0; errors < 1024; errors += 3) {
            StringBuilder text = new StringBuilder("g;g");
            int ways = 1;
            for (int s = 0; s < 5; s++) {
                int error = errors >> 2 * s & 3;
                text.append(";se").append(error);
                ways *= 2 * error + 1;
            }
            FarKeys k = land(text + ";h;hg1", "a", "a");
            due("ways(1) of " + text, k.ways(1), ways);
            due("ways(0) of " + text, k.ways(0), ways);
            due("fits(-1) of " + text, k.fits(NONE), ways);
            due("when(0, 2) of " + text, k.when(0, 2), 0);
            k.plan(0, NONE);
            due("when(0, 2) of " + text + ", never", k.when(0, 2), ways);
        }
    }

    private static void offsOfSeveralSigns() {
        sentence = "By OFFS (digits to the base 10: OFF and 3, SIGN 0 the highest)";
        int[] tens = {10000, 1000, 100, 10, 1};
        for (int error = 0; error <= 3; error++) {
            for (int sign = 0; sign < 5; sign++) {
                StringBuilder text = new StringBuilder("g;g");
                for (int s = 0; s < 5; s++) text.append(";st20").append(s == sign ? "e" + error : "");
                FarKeys k = land(text + ";hs" + sign, "" + (char) ('a' + sign));
                for (int digit = 0; digit < 10; digit++) {
                    int offs = 33333 + (digit - 3) * tens[sign];
                    boolean fine = Math.abs(digit - 3) <= error;
                    due("turnsAt(" + offs + ", 0)", k.turnsAt(offs, 0), fine ? 17 + digit : HIDDEN);
                    due("opens(" + offs + ")", k.opens(offs), fine ? 0 : NONE);
                }
                due("opens of a digit more", k.opens(133333), NONE);
                due("opens of a digit less", k.opens(3333), sign == 0 && error == 3 ? 0 : NONE);
                due("opens below 0", k.opens(-33333), NONE);
            }
        }
        FarKeys k = land("g;g;se3;se3;se3;se3;se3;h", "a");
        due("ways(1)", k.ways(1), 16807);
        due("turnsAt(0, 0)", k.turnsAt(0, 0), -3);
        due("turnsAt(66666, 0)", k.turnsAt(66666, 0), 3);
        for (int offs : new int[] {LOW, -1, 7, 66667, 70000, 99999, 100000, 133333, HIGH}) {
            due("turnsAt(" + offs + ", 0)", k.turnsAt(offs, 0), HIDDEN);
            due("opens(" + offs + ")", k.opens(offs), NONE);
        }
        for (int g : new int[] {LOW, -1, 1, 2, HIGH}) due("turnsAt(0, " + g + ")", k.turnsAt(0, g), HIDDEN);
    }

    private static void partsBelowZero() {
        sentence = "(May be below 0.)";
        // each behind the one ahead of it, all of them 3 early
        FarKeys k = land("g;g;se3;se3o0;se3o1;se3o2;se3o3;h;hs1;hs2;hs3;hs4", "e");
        due("turnsAt(0, 0)", k.turnsAt(0, 0), -15);
        due("turnsAt(66666, 0)", k.turnsAt(66666, 0), 15);
        due("turnsAt(33333, 0)", k.turnsAt(33333, 0), 0);
        due("turnsAt(33332, 0)", k.turnsAt(33332, 0), -1);
        due("when(0, 0)", k.when(0, 0), -15);
        due("when(0, 1)", k.when(0, 1), 15);
        // all of them late: 59 and 3, 9 later, five times, 99 more
        k = land("g;g;st59e3;st59e3o0;st59e3o1;st59e3o2;st59e3o3;hd9;hs1d9;hs2d9;hs3d9;hs4d9", "e+99");
        due("turnsAt(66666, 0)", k.turnsAt(66666, 0), 5 * 71 + 99);
        due("turnsAt(0, 0)", k.turnsAt(0, 0), 5 * 65 + 99);
        due("turnsAt(66666, 1)", k.turnsAt(66666, 1), HIDDEN);
    }

    private static void signsThatAreNeverThere() {
        sentence = "PARTS and its OFF behind when its GUARD hears that one (never, if it does not)";
        String land = "g;g;st5e1;st2e1o0v1;hs1";
        FarKeys k = land(land, "b");
        for (int offs : new int[] {22, 33, 44}) due("turnsAt(" + offs + ", 0), not sent", k.turnsAt(offs, 0), HIDDEN);
        due("when(0, 2), not sent", k.when(0, 2), 9);
        k = land(land + ";h", "b");
        due("turnsAt(33, 0), heard by another one", k.turnsAt(33, 0), HIDDEN);
        k = land(land + ";hg1", "b");
        due("turnsAt(33, 0)", k.turnsAt(33, 0), 7);
        due("turnsAt(22, 0)", k.turnsAt(22, 0), 5);
        due("turnsAt(44, 0)", k.turnsAt(44, 0), 9);
        due("turnsAt(24, 0)", k.turnsAt(24, 0), 7);
        k = land(land + ";hg1d9", "b");
        due("turnsAt(33, 0)", k.turnsAt(33, 0), 16);
        // not heard though it is there; and what goes out behind one that is never there
        k = land("g;g;st5;st2o0v1;hg1", "b");
        due("turnsAt(33, 0), not heard", k.turnsAt(33, 0), HIDDEN);
        k = land("g;g;st5;st2o0v1;so1;h;hs1;hs2", "c");
        due("turnsAt(333, 0), behind what is not sent", k.turnsAt(333, 0), HIDDEN);
        due("route(2, 1), behind what is not sent", k.route(2, 1), HIDDEN);
        // below 0 and not heard is never all the same
        k = land("g;g;se3;se3o0v1;h;hs1;hg1", "b", "b");
        due("turnsAt(0, 0)", k.turnsAt(0, 0), -6);
        due("turnsAt(0, 1)", k.turnsAt(0, 1), HIDDEN);
        // far below 0 it stays never: not sent, behind what is not sent, heard at once all the same
        k = land("g;g;se3;se3o0v1;se3o1;h;hs1;hs2;hs1g1;hs2g1;bw9", "b", "c");
        for (int offs : new int[] {0, 33, 300, 333, 666}) {
            due("turnsAt(" + offs + ", 0), not sent below 0", k.turnsAt(offs, 0), HIDDEN);
            due("turnsAt(" + offs + ", 1), not sent below 0", k.turnsAt(offs, 1), HIDDEN);
            due("opens(" + offs + "), not sent below 0", k.opens(offs), 0);
        }
        due("ways(0), not sent below 0", k.ways(0), 0);
        due("near(0), not sent below 0", k.near(0), NONE);
        due("when(1, 2), not sent below 0", k.when(1, 2), 343);
        due("gain(0), not sent below 0", k.gain(0), 0);
        due("night(), not sent below 0", k.night(), 0);
        due("turned(0, 1), not sent below 0", k.turned(0, 1), HIDDEN);
        due("route(1, 1), not sent below 0", k.route(1, 1), HIDDEN);
        due("route(2, 1), not sent below 0", k.route(2, 1), HIDDEN);
        // v counts with an o alone
        k = land("g;g;st5v1;h", "a");
        due("turnsAt(3, 0)", k.turnsAt(3, 0), 5);
    }

    private static void turnsByLetters() {
        sentence = "of a letter: when it hears that SIGN (never, if it does not, if there is no such one), and so much later";
        for (int signs = 1; signs <= 5; signs++) {
            StringBuilder text = new StringBuilder("g;g");
            for (int s = 0; s < signs; s++) text.append(";st").append(10 * s + 1).append(";hs").append(s).append("d").append(s);
            for (int letter = 0; letter < 5; letter++) {
                FarKeys k = land(text.toString(), (char) ('a' + letter) + "+7", "" + (char) ('a' + letter));
                int offs = 33333 % (int) Math.pow(10, signs);
                due("turnsAt by " + (char) ('a' + letter), k.turnsAt(offs, 0), letter < signs ? 11 * letter + 8 : HIDDEN);
                due("turnsAt of one who hears nothing", k.turnsAt(offs, 1), HIDDEN);
            }
        }
        sentence = "A GUARD without a PLAN never turns";
        FarKeys k = land("g;g;st5;h;hg1;bw9", "a");
        due("turnsAt(3, 1)", k.turnsAt(3, 1), HIDDEN);
        due("opens(3)", k.opens(3), 0);
        k.plan(1, 0);
        due("turnsAt(3, 1) with one", k.turnsAt(3, 1), 5);
        due("opens(3) with one", k.opens(3), 1);
        k.plan(1, NONE);
        due("turnsAt(3, 1) without again", k.turnsAt(3, 1), HIDDEN);
        due("opens(3) without again", k.opens(3), 0);
    }

    /** GUARD 0 hears a at 5 and b at 9, d is not heard, e is not told. */
    private static void latestAndEarliest() {
        sentence = "of & the latest (never, if one is), of | the earliest";
        String[] plan = {"a&b", "b&a", "a|b", "b|a", "a+4&b", "a+4|b", "a+5&b", "a+5|b", "a&d", "d&a", "a&e", "a|d", "d|a",
            "e|b", "d|e", "d&e", "a&b|d", "d&a|b", "a|b&d", "(a|b)&d", "(a|d)&b", "a+9|b&a", "b&(a+9|d)", "(d)|(e|(b))",
            "a&a", "a|a", "a+99&b+99", "a+99|b+99", "((((((a|d)&b)|d)&a+1)|e)&b+2)|d", "a&b&d|a+20&b|b+12"};
        int[] want = {9, 9, 5, 5, 9, 9, 10, 9, HIDDEN, HIDDEN, HIDDEN, 5, 5,
            9, HIDDEN, HIDDEN, 9, 9, 5, HIDDEN, 9, 9, 14, 9,
            5, 5, 108, 104, 11, 21};
        for (int i = 0; i < plan.length; i++) {
            FarKeys k = land("g;g;st5;st9;st1;st2;h;hs1;hs2;hs2g1;hs3g1", plan[i]);
            due("turnsAt(3333, 0) by " + plan[i], k.turnsAt(3333, 0), want[i]);
        }
    }

    /** a is below 0 in some ways and not heard by GUARD 0: never is later than all that it hears. */
    private static void neverIsNotBelowZero() {
        sentence = "of & the latest (never, if one is), of | the earliest";
        String[] plan = {"a", "a&b", "b&a", "a+99&b", "a|b", "(a|b)&b", "(a&b)|a", "a&b|b+3"};
        int[] want = {HIDDEN, HIDDEN, HIDDEN, HIDDEN, 5, 5, HIDDEN, 8};
        for (int i = 0; i < plan.length; i++) {
            FarKeys k = land("g;g;se3;st5;hg1;hs1", plan[i]);
            for (int off = 0; off <= 6; off++) due("turnsAt by " + plan[i], k.turnsAt(10 * off + 3, 0), want[i]);
            due("when(0, 0) by " + plan[i], k.when(0, 0), want[i]);
            due("when(0, 1) by " + plan[i], k.when(0, 1), want[i]);
            due("when(0, 2) by " + plan[i], k.when(0, 2), want[i] == HIDDEN ? 7 : 0);
        }
    }

    private static FarKeys four(int need, int breath, String... plans) {
        return land("g;g;g;g;s;h;hg1;hg2;hg3;bn" + need + "w" + breath, plans);
    }

    private static void withinABreath() {
        sentence = "It OPENS, if NEED GUARDS turn within BREATH parts (the last of them no more than that behind the first of them)";
        for (int need = 2; need <= 4; need++) {
            for (int breath = 0; breath <= 9; breath++) {
                for (int gap = 0; gap <= 11; gap++) {
                    boolean fine = gap <= breath;
                    String[] plans = {"", "", "", ""};
                    for (int g = 0; g < need; g++) plans[3 - g] = g == 1 ? "a+" + gap : "a";
                    FarKeys k = four(need, breath, plans);
                    String what = " of " + need + ", " + gap + " apart, within " + breath;
                    due("opens(3)" + what, k.opens(3), fine ? 1 : 0);
                    due("ways(0)" + what, k.ways(0), fine ? 1 : 0);
                    due("odds(0)" + what, k.odds(0), fine ? 1 : 0);
                    due("night()" + what, k.night(), fine ? 1 : 0);
                    due("moment(0)" + what, k.moment(0), fine ? gap : HIDDEN);
                    due("near(0)" + what, k.near(0), gap);
                    due("enough()" + what, k.enough(), gap);
                    due("sets(-1)" + what, k.sets(NONE), fine ? 1 << 4 - need : 0);
                    // one fewer
                    k.plan(3, NONE);
                    due("opens(3) by one fewer" + what, k.opens(3), 0);
                    due("ways(0) by one fewer" + what, k.ways(0), 0);
                    due("near(0) by one fewer" + what, k.near(0), NONE);
                }
            }
        }
        // which of them lie near does not matter: 0, 10, 12, 22
        due("two within 2", four(2, 2, "a", "a+12", "a+22", "a+10").opens(3), 1);
        due("two within 1", four(2, 1, "a", "a+12", "a+22", "a+10").opens(3), 0);
        due("three within 9", four(3, 9, "a", "a+12", "a+22", "a+10").opens(3), 0);
        due("three within 9, the last", four(3, 9, "a", "a+12", "a+19", "a+10").opens(3), 1);
        due("three within 9, the first", four(3, 9, "a+3", "a+12", "a+22", "a+10").opens(3), 1);
    }

    private static void needOfTooMany() {
        sentence = "In how many ways it OPENS (0), of how many (1). NONE: no LAND, no such what";
        for (int guards = 2; guards <= 4; guards++) {
            for (int need = 2; need <= 4; need++) {
                StringBuilder text = new StringBuilder("se1");
                for (int g = 0; g < guards; g++) text.append(";g;hg").append(g);
                FarKeys k = land(text + ";bw9n" + need);
                turnBy(k, 0, "a");
                for (int g = 1; g < guards; g++) k.plan(g, 0);
                due("ways(0) of " + guards + " by " + need, k.ways(0), need <= guards ? 3 : 0);
                due("ways(1)", k.ways(1), 3);
                due("enough() of " + guards + " by " + need, k.enough(), need <= guards ? 0 : NONE);
                due("near(1) of " + guards + " by " + need, k.near(1), need <= guards ? 0 : NONE);
                for (int what : FEW) if (what != 0 && what != 1) due("ways(" + what + ")", k.ways(what), NONE);
            }
        }
    }

    private static void oddsMadePlain() {
        sentence = "in how many ways it OPENS, by all: a fraction made plain";
        // GUARD 0 at x (from -3 to 3), GUARD 1 at 3 - and a BREATH of 0 to 9
        for (int breath = 0; breath <= 9; breath++) {
            FarKeys k = land("g;g;se3;st3;h;hs1g1;bw" + breath, "a", "b");
            due("odds(0) within " + breath, k.odds(0), breath < 6 ? breath + 1 : 1);
            due("odds(1) within " + breath, k.odds(1), breath < 6 ? 7 : 1);
        }
        // x and y from -1 to 1: alike in 3 of 9, no more than 1 apart in 7, 2 in all
        int[] above = {1, 7, 1};
        int[] below = {3, 9, 1};
        for (int breath = 0; breath <= 2; breath++) {
            FarKeys k = land("g;g;se1;se1;h;hs1g1;bw" + breath, "a", "b");
            due("odds(0) of 9", k.odds(0), above[breath]);
            due("odds(1) of 9", k.odds(1), below[breath]);
        }
        FarKeys k = land("g;g;se3;se3;se3;se3;se3;h;hs1;hs2;hs3;hs4;hg1;hs1g1;hs2g1;hs3g1;hs4g1;bw0", "a|b|c|d|e", "a&b&c&d&e");
        due("ways(0) of all alike", k.ways(0), 7);
        due("odds(0) of all alike", k.odds(0), 1);
        due("odds(1) of all alike", k.odds(1), 2401);
        k.plan(1, NONE);
        due("odds(0) of never", k.odds(0), 0);
        due("odds(1) of never", k.odds(1), 1);
        for (int part : FEW) if (part != 0 && part != 1) due("odds(" + part + ")", k.odds(part), NONE);
    }

    private static void whenTurned() {
        sentence = "WHEN: the earliest (0), the latest (1; HIDDEN both: it never turns), in how many ways it never does (2). HIDDEN: no such ones";
        for (int error = 0; error <= 3; error++) {
            FarKeys k = land("g;g;st2e" + error + ";h", "a+1", "a");
            due("when(0, 0)", k.when(0, 0), 3 - error);
            due("when(0, 1)", k.when(0, 1), 3 + error);
            due("when(0, 2)", k.when(0, 2), 0);
            due("when(1, 0)", k.when(1, 0), HIDDEN);
            due("when(1, 1)", k.when(1, 1), HIDDEN);
            due("when(1, 2)", k.when(1, 2), 2 * error + 1);
            for (int g : FEW)
                for (int what : FEW)
                    if (g < 0 || g > 1 || what < 0 || what > 2) due("when(" + g + ", " + what + ")", k.when(g, what), HIDDEN);
        }
    }

    /** What was asked ahead of a change is not in what is asked behind it. */
    private static void askedAgain() {
        sentence = "WHEN a GUARD turns: the earliest, the latest part over all ways; in how many it never does";
        FarKeys k = land("g;g;g;st9e1;st5e2;h;hs1g1;hg2d3;bw9", "a", "b", "a+1");
        for (int round = 0; round < 3; round++) {
            for (int g = 0; g < 3; g++) {
                due("when(" + g + ", 2)", k.when(g, 2), 0);
                due("when(" + g + ", 0)", k.when(g, 0), g == 0 ? 8 : g == 1 ? 3 : 12);
                due("when(" + g + ", 1)", k.when(g, 1), g == 0 ? 10 : g == 1 ? 7 : 14);
            }
            due("ways(0)", k.ways(0), 15);
            due("gain(1)", k.gain(1), 150);
            due("near(0)", k.near(0), 1);
            due("near(1)", k.near(1), 4);
            due("enough()", k.enough(), 4);
            due("moment(0)", k.moment(0), 8);
            due("moment(2)", k.moment(2), 135);
            for (int g = 0; g < 3; g++) k.plan(g, NONE);
            for (int g = 0; g < 3; g++) {
                due("when(" + g + ", 2) of never", k.when(g, 2), 15);
                due("when(" + g + ", 0) of never", k.when(g, 0), HIDDEN);
                due("when(" + g + ", 1) of never", k.when(g, 1), HIDDEN);
            }
            due("ways(0) of never", k.ways(0), 0);
            due("gain(1) of never", k.gain(1), 0);
            due("near(1) of never", k.near(1), NONE);
            due("enough() of never", k.enough(), NONE);
            due("moment(2) of never", k.moment(2), HIDDEN);
            for (int g = 0; g < 3; g++) k.plan(g, g);
        }
    }

    private static void nearest() {
        sentence = "NEAR: the least (0), the greatest (1). NONE: in no way NEED turn, no LAND, no such what";
        FarKeys k = land("g;g;g;st9e3;st9e2;h;hs1g1;hg2d8", "a", "b");
        due("near(0)", k.near(0), 0);
        due("near(1)", k.near(1), 5);
        k.plan(1, NONE);
        due("near(0) of one", k.near(0), NONE);
        due("near(1) of one", k.near(1), NONE);
        k.plan(2, 0);
        due("near(0) of two 8 apart", k.near(0), 8);
        due("near(1) of two 8 apart", k.near(1), 8);
        k.plan(0, NONE);
        k.plan(2, NONE);
        due("near(0) of none", k.near(0), NONE);
        for (int what : FEW) if (what != 0 && what != 1) due("near(" + what + ")", land("g;g;s;h;hg1", "a", "a").near(what), NONE);
        sentence = "how far the NEED turns that lie nearest to one another are apart (those ways out in which fewer turn)";
        // of 0, 4, 9 two are 4 apart, three are 9
        due("near(0) of 0, 4, 9 by two", four(2, 0, "a", "a+9", "a+4").near(0), 4);
        due("near(0) of 0, 4, 9 by three", four(3, 0, "a", "a+9", "a+4").near(0), 9);
        due("near(0) of 0, 4, 9 by four", four(4, 0, "a", "a+9", "a+4").near(0), NONE);
        due("near(0) of 0, 4, 9, 14 by three", four(3, 0, "a", "a+9", "a+4", "a+14").near(0), 9);
        due("near(0) of 0, 4, 9, 12 by three", four(3, 0, "a", "a+9", "a+4", "a+12").near(0), 8);
    }

    private static void breathEnough() {
        sentence = "BREATH ENOUGH: the least (0 .. 99) with which it would OPEN in all ways";
        for (int gap = 90; gap <= 108; gap++) {
            FarKeys k = land("g;g;s;h;hg1d9", "a", "a+" + (gap - 9));
            due("near(1) of " + gap, k.near(1), gap);
            due("enough() of " + gap, k.enough(), gap <= 99 ? gap : NONE);
        }
        FarKeys k = land("g;g;se3;st59e3;h;hs1g1", "a", "b+35");
        due("enough() of 88 .. 100", k.enough(), NONE);
        k = land("g;g;se3;st59e3;h;hs1g1", "a", "b+34");
        due("near(0)", k.near(0), 87);
        due("enough() of 87 .. 99", k.enough(), 99);
        k = land("g;g;s;h;hg1", "a", "a");
        due("enough() of 0", k.enough(), 0);
        k.plan(1, NONE);
        due("enough() of one", k.enough(), NONE);
    }

    // ---- ==== 3

    private static void simplePlansOfOne() {
        sentence = "SIMPLE plans: a SIGN that is told and 0 .. 9 later";
        for (int late = 0; late <= 12; late++) {
            FarKeys k = land("g;g;s;h;hg1;bw0", "", "a+" + late);
            due("best(0, 0) of " + late, k.best(0, 0), late <= 9 ? late : 0);
            due("best(0, 1) of " + late, k.best(0, 1), late <= 9 ? 1 : 0);
            due("thief(0, 0) of " + late, k.thief(0, 0), late <= 9 ? late : 0);
            due("thief(0, 1) of " + late, k.thief(0, 1), late <= 9 ? 1 : 0);
            // of the fifth SIGN
            k = land("g;g;st30;st31;st32;st33;st59;hs4;hs4g1;bw0", "", "e+" + late);
            due("best(0, 0) of e+" + late, k.best(0, 0), late <= 9 ? 40 + late : 0);
            due("best(0, 1) of e+" + late, k.best(0, 1), late <= 9 ? 1 : 0);
            due("thief(0, 0) of e+" + late, k.thief(0, 0), late <= 9 ? 40 + late : 0);
        }
        // three are needed: GUARDS 1 and 2 so far apart, GUARD 0 may be between them, but only within a BREATH of 4
        for (int apart = 0; apart <= 9; apart++) {
            FarKeys k = land("g;g;g;s;h;hg1;hg2;bn3w4", "a+2", "a", "a+" + apart);
            due("best(0, 1) of " + apart + " apart", k.best(0, 1), apart <= 4 ? 1 : 0);
            due("best(0, 0) of " + apart + " apart", k.best(0, 0), 0);
            due("thief(0, 1) of " + apart + " apart", k.thief(0, 1), apart <= 4 ? 1 : 0);
            due("waits(0, 1) of " + apart + " apart", k.waits(0, 1), apart <= 4 ? 1 : 0);
        }
        // GUARD 2 at 0: the two others within 4 of it
        due("sure(0, 1) with a third", land("g;g;g;s;h;hg1;hg2;bn3w4", "", "", "a").sure(0, 1), 25);
        sentence = "BEST: the plan (0), in how many ways (1). NONE: no such ones";
        FarKeys k = land("g;g;g;s;h;hg1", "a", "a");
        for (int g : FEW)
            for (int what : FEW) {
                boolean fine = g >= 0 && g <= 2 && (what == 0 || what == 1);
                due("best(" + g + ", " + what + ")", k.best(g, what), fine ? what : NONE);
            }
        due("guard(0, 2)", k.guard(0, 2), 0);
        due("guard(2, 2)", k.guard(2, 2), NONE);
        // his own PLAN is out: GUARD 1 alone does not OPEN it
        due("best(0, 1) of one who hears nothing", land("g;g;s;hg1", "a", "a").best(0, 1), 0);
        due("best(0, 1) in 16807 ways", land("g;g;se3;se3;se3;se3;se3;h;hg1;bw0", "", "a").best(0, 1), 16807);
    }

    private static void lowestOfSeveral() {
        sentence = "of several the lowest SIGN, then number";
        // GUARD 1 at 5; a at 0 and b at 5: a+5 and b are alike, so is a+4 within 1
        String land = "g;g;s;st5;h;hs1;hs1g1;bw";
        due("best(0, 0) within 0", land(land + 0, "", "b").best(0, 0), 5);
        due("best(0, 0) within 1", land(land + 1, "", "b").best(0, 0), 4);
        due("best(0, 0) within 9", land(land + 9, "", "b").best(0, 0), 0);
        due("best(0, 0) of b+4", land(land + 0, "", "b+4").best(0, 0), 9);
        due("best(0, 0) of b+5", land(land + 0, "", "b+5").best(0, 0), 15);
        // most ways go ahead of lowest: a with its ERROR in one way, b in all three
        due("best(0, 0) of more", land("g;g;st5e1;st5;h;hs1;hs1g1;bw0", "", "b").best(0, 0), 10);
        due("thief(0, 0) of several", land(land + 1, "", "b").thief(0, 0), 4);
        sentence = "of several the lowest of the first, then of the other";
        FarKeys k = land("g;g;s;hd2;hg1;bw0");
        due("pair(0, 1, 0) of 2 later", k.pair(0, 1, 0), 2);
        due("pair(1, 0, 0) of 2 later", k.pair(1, 0, 0), 200);
        k = land("g;g;s;hd2;hg1;bw1");
        due("pair(0, 1, 0) within 1", k.pair(0, 1, 0), 1);
        due("pair(1, 0, 0) within 1", k.pair(1, 0, 0), 100);
        k = land("g;g;s;st1;hd9;hs1g1;bw0");
        due("pair(0, 1, 0) of a and b", k.pair(0, 1, 0), 18);
        due("pair(1, 0, 0) of b and a", k.pair(1, 0, 0), 1800);
    }

    private static void simplePlansOfTwo() {
        sentence = "PAIR: 100 times the first one's and the other's (0), in how many ways (1). NONE: no such ones, alike";
        for (int late = 0; late <= 12; late++) {
            // all three at once, the third so much later
            FarKeys k = land("g;g;g;s;h;hg1;hg2;bn3w0", "", "", "a+" + late);
            due("pair(0, 1, 0) of " + late, k.pair(0, 1, 0), late <= 9 ? 101 * late : 0);
            due("pair(0, 1, 1) of " + late, k.pair(0, 1, 1), late <= 9 ? 1 : 0);
            due("sure(0, 1) of " + late, k.sure(0, 1), late <= 9 ? 1 : 0);
            // neither alone OPENS it: 81 pairs rest as well, or all
            due("rest(0, 1, -1) of " + late, k.rest(0, 1, NONE), late <= 9 ? 82 : 100);
        }
        due("pair(0, 1, 0) of e and e", land("g;g;g;st1;st2;st3;st4;st30;hs4;hs4g1;hs4g2;bn3w0", "", "", "e+9").pair(0, 1, 0), 4949);
        for (int breath = 0; breath <= 9; breath++) {
            FarKeys k = land("g;g;s;h;hg1;bw" + breath);
            int pairs = 10;
            for (int apart = 1; apart <= breath; apart++) pairs += 2 * (10 - apart);
            sentence = "SURE: how many SIMPLE pairs of two GUARDS (others by their PLANS) there are with which it OPENS in all ways";
            due("sure(0, 1) within " + breath, k.sure(0, 1), pairs);
            due("sure(1, 0) within " + breath, k.sure(1, 0), pairs);
            // in all ways: with an ERROR of its own each is at most 6 apart by itself
            k = land("g;g;se3;se3;h;hs1g1;bw" + breath);
            int sure = 0;
            for (int apart = -9; apart <= 9; apart++) if (Math.abs(apart) + 6 <= breath) sure += 10 - Math.abs(apart);
            due("sure(0, 1) with ERRORS within " + breath, k.sure(0, 1), sure);
        }
        FarKeys k = new FarKeys();
        for (int one : FEW) {
            k = land("g;g;g;s;h;hg1");
            for (int other : FEW) {
                boolean fine = one >= 0 && one <= 2 && other >= 0 && other <= 2 && one != other;
                boolean open = fine && one + other == 1;
                due("pair(" + one + ", " + other + ", 1)", k.pair(one, other, 1), fine ? open ? 1 : 0 : NONE);
                due("sure(" + one + ", " + other + ")", k.sure(one, other), fine ? open ? 28 : 0 : NONE);
                due("rest(" + one + ", " + other + ", -1)", k.rest(one, other, NONE) >= 0, fine);
            }
        }
        for (int what : FEW) if (what != 0 && what != 1) due("pair(0, 1, " + what + ")", k.pair(0, 1, what), NONE);
    }

    private static void moreThanFourHundredWays() {
        sentence = "NONE: no such ones, alike, more than 400 ways";
        String[] errors = {"00000", "33300", "22211", "22210", "21111", "22220", "33333"};
        int[] ways = {1, 343, 1125, 375, 405, 625, 16807};
        for (int i = 0; i < errors.length; i++) {
            StringBuilder text = new StringBuilder("g;g");
            for (char e : errors[i].toCharArray()) text.append(";se").append(e);
            FarKeys k = land(text + ";h;hg1;bw0", "a", "a");
            boolean fine = ways[i] <= 400;
            due("ways(1)", k.ways(1), ways[i]);
            due("pair(0, 1, 0) of " + ways[i], k.pair(0, 1, 0), fine ? 0 : NONE);
            due("pair(0, 1, 1) of " + ways[i], k.pair(0, 1, 1), fine ? ways[i] : NONE);
            due("sure(0, 1) of " + ways[i], k.sure(0, 1), fine ? 10 : NONE);
            // besides those at once: both by SIGNS that they do not hear, 40 each
            due("rest(0, 1, -1) of " + ways[i], k.rest(0, 1, NONE), fine ? 10 + 1600 : NONE);
            due("rest(0, 1, 9) of " + ways[i], k.rest(0, 1, 9), fine ? 909 : NONE);
            // no other question has that bound
            due("best(0, 1) of " + ways[i], k.best(0, 1), ways[i]);
            due("thief(0, 1) of " + ways[i], k.thief(0, 1), ways[i]);
            due("waits(0, 1) of " + ways[i], k.waits(0, 1), ways[i]);
            due("gain(0) of " + ways[i], k.gain(0), 10 * ways[i]);
            due("fits(-1) of " + ways[i], k.fits(NONE), ways[i]);
        }
    }

    private static void idleSigns() {
        sentence = "so that it OPENS in no fewer ways";
        // GUARD 0 at the earlier of 5 and 5 + z (z from -1 to 1), GUARD 1 at 5
        String land = "g;g;st5;st5;st5e1;h;hs2;hs1g1;bw";
        FarKeys k = land(land + 0, "a|c", "b");
        due("ways(0)", k.ways(0), 2);
        due("idle() of one fewer without a, one more without c", k.idle(), 4);
        k = land(land + 1, "a|c", "b");
        due("ways(0)", k.ways(0), 3);
        due("idle() of as many without a", k.idle(), 5);
        due("idle() of never", land(land + 1, "", "b").idle(), 7);
        due("idle() of one SIGN", land("g;g;s;h;hg1", "a", "a").idle(), 0);
        // each alone: either of a and b may be left out
        due("idle() of either", land("g;g;s;s;h;hs1;hg1;hs1g1", "a|b", "a|b").idle(), 3);
        // without b what goes out behind it is never there
        due("idle() of one behind", land("g;g;s;s;so1;hs1;hs2;hs2g1", "c", "c").idle(), 1);
        due("idle() of five", land("g;g;s;s;s;s;s;hs4;hs4g1", "e", "e").idle(), 15);
    }

    private static void shifted() {
        sentence = "SHIFT of a SIGN (its PARTS so much more, -9 .. 9): in how many ways it OPENS then";
        for (int by = -12; by <= 12; by++) {
            // a at 20 is to be where b is, so much more than 20
            FarKeys k = land("g;g;st20e1;st" + (20 + by) + ";h;hs1g1;bw0", "a", "b");
            boolean fine = by >= -9 && by <= 9;
            due("shift(0, " + by + ")", k.shift(0, by), fine ? 1 : NONE);
            due("shift(1, " + -by + ")", k.shift(1, -by), fine ? 1 : NONE);
            due("shift(0, 0)", k.shift(0, 0), Math.abs(by) <= 1 ? 1 : 0);
            due("sign(0, 0)", k.sign(0, 0), 20);
            due("ways(0)", k.ways(0), Math.abs(by) <= 1 ? 1 : 0);
        }
        FarKeys k = land("g;g;s;st59;h;hs1g1;bw0", "a", "b");
        for (int s : FEW) if (s != 0 && s != 1) due("shift(" + s + ", 0)", k.shift(s, 0), NONE);
        due("shift(0, low)", k.shift(0, LOW), NONE);
        due("shift(0, high)", k.shift(0, HIGH), NONE);
        // below 0, and beyond 59
        due("shift(0, -9) below 0", land("g;g;s;st9;h;hs1g1;bw9", "a", "b").shift(0, -9), 0);
        due("shift(0, -9) below 0, both", land("g;g;s;so0;h;hs1g1;bw0", "a+0", "b").shift(0, -9), 1);
        due("shift(1, 9) beyond 59", land("g;g;st59;st59;h;hs1g1;bw9", "a", "b").shift(1, 9), 1);
        // what goes out behind it goes with it
        due("shift(0, 4) of one behind", land("g;g;st1;st2o0;st7;h;hs1;hs2g1;bw0", "b", "c").shift(0, 4), 1);
    }

    private static void waiting() {
        sentence = "WAIT of a GUARD: by how much (0 .. 9) later it had best turn than its PLAN tells (of several the least)";
        for (int late = 0; late <= 12; late++) {
            FarKeys k = land("g;g;s;h;hg1;bw0", "a", "a+" + late);
            due("waits(0, 0) of " + late, k.waits(0, 0), late <= 9 ? late : 0);
            due("waits(0, 1) of " + late, k.waits(0, 1), late <= 9 ? 1 : 0);
            k = land("g;g;s;h;hg1;bw2", "a", "a+" + late);
            due("waits(0, 0) of " + late + " within 2", k.waits(0, 0), late <= 2 || late > 11 ? 0 : late - 2);
            due("waits(0, 1) of " + late + " within 2", k.waits(0, 1), late <= 11 ? 1 : 0);
            // it is never earlier
            due("waits(1, 0) of " + late, k.waits(1, 0), 0);
        }
        sentence = "WAIT: how much (0), in how many ways (1). NONE: no such ones";
        FarKeys k = land("g;g;g;s;h;hg1;hg2", "a", "a");
        for (int g : FEW)
            for (int what : FEW) {
                boolean fine = g >= 0 && g <= 2 && (what == 0 || what == 1);
                due("waits(" + g + ", " + what + ")", k.waits(g, what), fine ? what : NONE);
            }
        k.plan(1, NONE);
        due("waits(2, 0) without a PLAN", k.waits(2, 0), 0);
        due("waits(2, 1) without a PLAN", k.waits(2, 1), 0);
    }

    private static void gains() {
        sentence = "PRIZE for each way in which it OPENS; else the first GUARD to turn (of several the lowest) has what it has for TRYING";
        for (int prize : new int[] {0, 1, 99}) {
            for (int trying : new int[] {0, 1, 99}) {
                String text = "gp" + prize + "t" + trying + ";g;gp" + prize + "t" + trying + ";se3;st3;h;hs1g1;hg2;bw";
                for (int breath = 0; breath <= 9; breath++) {
                    // GUARD 0 at -3 .. 3 and first in all ways, GUARD 1 at 3
                    FarKeys k = land(text + breath, "a", "b");
                    int open = Math.min(breath + 1, 7);
                    due("gain(0) within " + breath, k.gain(0), prize * open + trying * (7 - open));
                    due("gain(1) within " + breath, k.gain(1), 10 * open);
                    due("gain(2) within " + breath, k.gain(2), prize * open);
                }
            }
        }
        FarKeys k = land("gt1;gt2;gt4;gt8;s;h;hg1;hg2;hg3;bn4w0", "a", "a", "a", "a+1");
        int[] lowest = {1, 2, 4};
        for (int out = 0; out < 4; out++) {
            for (int g = 0; g < 4; g++) due("gain(" + g + ") of several, without " + out, k.gain(g), out < 3 && g == out ? lowest[g] : out == 3 && g == 3 ? 8 : 0);
            k.plan(out, NONE);
        }
        for (int g = 0; g < 4; g++) due("gain(" + g + ") of none", k.gain(g), 0);
        for (int g : FEW) if (g < 0 || g > 3) due("gain(" + g + ")", k.gain(g), NONE);
        // the earlier goes ahead of the lower
        due("gain(1) of the earlier", land("gt1;gt2;s;hd1;hg1;bn3", "a", "a").gain(1), 2);
        due("gain(0) of the later", land("gt1;gt2;s;hd1;hg1;bn3", "a", "a").gain(0), 0);
        due("gain(0) below 0", land("gt1;gt2;se3;st1;h;hs1g1;bn3", "a", "b").gain(0), 5);
        due("gain(1) below 0", land("gt1;gt2;se3;st1;h;hs1g1;bn3", "a", "b").gain(1), 4);
        due("gain(0) of most", land("gp99;g;se3;se3;se3;se3;se3;h;hg1", "a", "a").gain(0), 99 * 16807);
    }

    private static void rests() {
        sentence = "REST: how many (i NONE), the i-th. NONE: no such ones, alike";
        FarKeys k = land("g;g;s;h;hg1;bw1");
        due("rest(0, 1, -1)", k.rest(0, 1, NONE), 28);
        int i = 0;
        for (int one = 0; one < 10; one++)
            for (int other = 0; other < 10; other++)
                if (Math.abs(one - other) <= 1) due("rest(0, 1, " + i + ")", k.rest(0, 1, i++), 100 * one + other);
        for (int none : new int[] {LOW, -3, -2, 28, 29, 100, HIGH}) due("rest(0, 1, " + none + ")", k.rest(0, 1, none), NONE);
        sentence = "pairs of SIMPLE plans by which neither has more by another SIMPLE one alone";
        // nothing to be had: no pair is left for another one
        k = land("gp0;gp0;s;h;hg1;bw0");
        due("rest(0, 1, -1) of nothing", k.rest(0, 1, NONE), 100);
        due("rest(0, 1, 99) of nothing", k.rest(0, 1, 99), 909);
        due("rest(0, 1, 100) of nothing", k.rest(0, 1, 100), NONE);
        // one has nothing, the other one goes where it is
        due("rest(0, 1, -1) of one", land("gp0;g;s;h;hg1;bw0").rest(0, 1, NONE), 10);
        // TRYING as much as the PRIZE: no more is to be had by it; one more: the first must be
        due("rest(0, 1, -1) of t9", land("gt9;gt9;s;h;hg1;bw0").rest(0, 1, NONE), 10);
        due("rest(0, 1, -1) of t10", land("gt10;gt10;s;h;hg1;bw0").rest(0, 1, NONE), 10);
        due("rest(0, 1, -1) of t11", land("gt11;gt11;s;h;hg1;bw0").rest(0, 1, NONE), 1);
        due("rest(0, 1, 0) of t11", land("gt11;gt11;s;h;hg1;bw0").rest(0, 1, 0), 0);
        // TRYING is for ways in which it does not OPEN alone: within 1 no more is to be had by being first
        for (int trying : new int[] {1, 9, 10}) {
            String text = "gt" + trying + ";gt" + trying + ";st5e1;h;hg1;bw1";
            due("rest(0, 1, -1) within 1 of t" + trying, land(text).rest(0, 1, NONE), 28);
            due("rest(1, 0, -1) within 1 of t" + trying, land(text).rest(1, 0, NONE), 28);
            due("rest(0, 1, 27) within 1 of t" + trying, land(text).rest(0, 1, 27), 909);
        }
        // beyond the PRIZE: the first goes ahead by more than the BREATH, till there is nothing ahead; 0 and 0,
        // 0 and 1, 1 and 0, 1 and 1 are left
        due("rest(0, 1, -1) within 1 of t11", land("gt11;gt11;st5e1;h;hg1;bw1").rest(0, 1, NONE), 4);
        due("rest(0, 1, 3) within 1 of t11", land("gt11;gt11;st5e1;h;hg1;bw1").rest(0, 1, 3), 101);
        due("rest(1, 0, 3) within 1 of t11", land("gt11;gt11;st5e1;h;hg1;bw1").rest(1, 0, 3), 101);
        // a third is always the first: TRYING is for neither, however much it is
        for (String text : new String[] {"gt99;gt99;g;st20;s;h;hg1;hs1g2;bw0", "gt99;gt99;g;st20e1;s;h;hg1;hs1g2;bw0"}) {
            FarKeys third = land(text, "", "", "b");
            for (int order = 0; order < 2; order++) {
                due("rest of those behind a third", third.rest(order, 1 - order, NONE), 110);
                due("rest of those behind a third", third.rest(order, 1 - order, 9), 909);
                due("rest of those behind a third", third.rest(order, 1 - order, 10), 1010);
            }
        }
        // who never turns is not the first: by b, which GUARD 0 does not hear, it has nothing
        FarKeys deaf = land("gt5;gt5;s;s;h;bn3");
        due("rest(0, 1, -1) of one who hears a", deaf.rest(0, 1, NONE), 200);
        due("rest(0, 1, 199) of one who hears a", deaf.rest(0, 1, 199), 919);
        due("rest(1, 0, -1) of one who hears a", deaf.rest(1, 0, NONE), 200);
        due("rest(1, 0, 199) of one who hears a", deaf.rest(1, 0, 199), 1909);
        // what is never there and heard at once by both OPENS nothing, and nobody is the first by it
        FarKeys never = land("gt5;gt5;se3;se3o0v1;hs1;hs1g1;bw9");
        due("pair(0, 1, 1) of what is never there", never.pair(0, 1, 1), 0);
        due("pair(0, 1, 0) of what is never there", never.pair(0, 1, 0), 0);
        due("sure(0, 1) of what is never there", never.sure(0, 1), 0);
        due("rest(0, 1, -1) of what is never there", never.rest(0, 1, NONE), 400);
        due("best(0, 1) of what is never there", never.best(0, 1), 0);
        due("thief(0, 1) of what is never there", never.thief(0, 1), 0);
        // not heard by either, though below 0
        due("pair(0, 1, 1) of what is not heard", land("g;g;se3;bw9").pair(0, 1, 1), 0);
        due("rest(0, 1, -1) of what is not heard", land("gt5;gt5;se3;bw9").rest(0, 1, NONE), 100);
        // two that never turn: what they could hear is not there
        due("rest(0, 1, -1) of deaf ones", land("gt9;gt9;s").rest(0, 1, NONE), 100);
        due("rest(0, 1, 0) of five SIGNS", land("gt9;gt9;s;s;s;s;s").rest(0, 1, 2499), 4949);
        due("rest(0, 1, -1) of five SIGNS", land("gt9;gt9;s;s;s;s;s").rest(0, 1, NONE), 2500);
    }

    private static void thieves() {
        sentence = "he hears each SIGN (that there is) as it is, at once";
        for (int later = 0; later <= 9; later++) {
            // GUARD 1 hears it later; GUARD 0 later still, or not at all
            FarKeys k = land("g;g;st5e3;hd9;hg1d" + later + ";bw0", "", "a");
            due("thief(0, 0) at " + later, k.thief(0, 0), later);
            due("thief(0, 1) at " + later, k.thief(0, 1), 7);
            due("best(0, 1) at " + later, k.best(0, 1), later == 9 ? 7 : 0);
            k = land("g;g;st5e3;hg1d" + later + ";bw0", "", "a");
            due("thief(0, 0) unheard, at " + later, k.thief(0, 0), later);
            due("thief(0, 1) unheard, at " + later, k.thief(0, 1), 7);
        }
        due("thief(0, 1) beyond 9", land("g;g;st5e3;hg1d9;bw0", "", "a+1").thief(0, 1), 0);
        // b is never there: it is not for him either
        due("thief(0, 0) of what is never there", land("g;g;st9;st5o0v0;st5;hs2g1;bw0", "", "c").thief(0, 0), 20);
        // in place of that GUARD's: its own turn is out
        FarKeys k = land("g;g;g;s;h;hg1;hg2;bn3w9", "a", "a", "a");
        due("thief(0, 1) of three", k.thief(0, 1), 1);
        k.plan(1, NONE);
        due("thief(0, 1) of two", k.thief(0, 1), 0);
        sentence = "THIEF: the plan (0), in how many ways (1). NONE: no such ones";
        k = land("g;g;s;h;hg1", "a", "a");
        for (int g : FEW)
            for (int what : FEW) {
                boolean fine = g >= 0 && g <= 1 && (what == 0 || what == 1);
                due("thief(" + g + ", " + what + ")", k.thief(g, what), fine ? what : NONE);
            }
    }

    private static void scratchesAtMost() {
        sentence = "SCRATCHES (10 at most)";
        FarKeys k = land("g;g;st5e3;h", "a");
        for (int i = 1; i <= 14; i++) {
            due("scratch " + i, k.scratch(0, i % 2 - 1, i <= 9 ? 5 : i == 10 ? 6 : 7), i <= 10 ? i : NONE);
            due("scratches", k.count(6), Math.min(i, 10));
            due("fits(-1) behind " + i, k.fits(NONE), i <= 9 ? 1 : 0);
            due("lies() behind " + i, k.lies(), i <= 9 ? 0 : 512);
        }
    }

    private static void scratchesWithinBounds() {
        sentence = "a GUARD turned at a part (-99 .. 199), or heard a SIGN at a part";
        for (int part : new int[] {LOW, -1000000, -101, -100, -99, -98, -1, 0, 1, 198, 199, 200, 201, 1000000, HIGH}) {
            boolean fine = part >= -99 && part <= 199;
            FarKeys k = land("g;g;s;h");
            due("scratch(0, -1, " + part + ")", k.scratch(0, NONE, part), fine ? 1 : NONE);
            due("scratch(0, 0, " + part + ")", k.scratch(0, 0, part), fine ? 2 : NONE);
            due("scratches", k.count(6), fine ? 2 : 0);
            due("fits(-1)", k.fits(NONE), fine ? 0 : 1);
            due("lies()", k.lies(), fine ? part == 0 ? 1 : 3 : 0);
        }
        sentence = "NONE: no such ones, out of bounds, there are ten";
        for (int guards = 2; guards <= 4; guards++) {
            FarKeys k = land("s;s" + ";g".repeat(guards));
            int had = 0;
            for (int g : FEW)
                for (int s : FEW) {
                    boolean fine = g >= 0 && g < guards && s >= NONE && s < 2 && had < 10;
                    if (fine) had++;
                    due("scratch(" + g + ", " + s + ", 0)", k.scratch(g, s, 0), fine ? had : NONE);
                    due("scratches", k.count(6), had);
                }
        }
        // turns and hearings at the bound itself: 59 and 9, 59 and 9, 63 more, or 54 and 9
        FarKeys k = land("g;g;st59;st59o0;st54o1;hd9;hs1d9;hs2d9", "b+63", "");
        due("scratch at 199", k.scratch(0, NONE, 199), 1);
        due("fits(-1)", k.fits(NONE), 1);
        due("scratch heard at 199", k.scratch(0, 2, 199), 2);
        due("fits(-1)", k.fits(NONE), 1);
        due("scratch at 198", k.scratch(0, 2, 198), 3);
        due("fits(-1)", k.fits(NONE), 0);
        due("lies()", k.lies(), 4);
        k = land("g;g;se3;se3o0;se3o1;se3o2;se3o3;h;hs1;hs2;hs3;hs4", "e");
        due("scratch heard at -15", k.scratch(0, 4, -15), 1);
        due("scratch turned at -15", k.scratch(0, NONE, -15), 2);
        due("fits(-1)", k.fits(NONE), 1);
        for (int s = 0; s < 5; s++) due("fits(" + s + ")", k.fits(s), 1);
    }

    private static void fitting() {
        sentence = "OFFS of a SIGN in these (bits: OFF and 3)";
        for (int error = 0; error <= 3; error++) {
            int all = 0;
            for (int off = -error; off <= error; off++) all |= 1 << off + 3;
            due("fits(0) without SCRATCHES", land("g;g;se" + error + ";h").fits(0), all);
            due("fits(-1) without SCRATCHES", land("g;g;se" + error + ";h").fits(NONE), 2 * error + 1);
            for (int off = -4; off <= 4; off++) {
                boolean fine = Math.abs(off) <= error;
                FarKeys heard = land("g;g;s;st9e" + error + ";hs1d1");
                heard.scratch(0, 1, 10 + off);
                due("fits(-1) heard at " + off, heard.fits(NONE), fine ? 1 : 0);
                due("fits(1) heard at " + off, heard.fits(1), fine ? 1 << off + 3 : 0);
                due("fits(0) heard at " + off, heard.fits(0), fine ? 8 : 0);
                FarKeys turned = land("g;g;s;st9e" + error + ";hs1d1", "b+2");
                turned.scratch(0, NONE, 12 + off);
                due("fits(-1) turned at " + off, turned.fits(NONE), fine ? 1 : 0);
                due("fits(1) turned at " + off, turned.fits(1), fine ? 1 << off + 3 : 0);
            }
        }
        // several SIGNS heard, none of them turned by: all of them count
        for (int x = -2; x <= 2; x++)
            for (int y = -2; y <= 2; y++) {
                FarKeys two = land("g;g;st5e1;st8e1;se2;h;hs1g1");
                two.scratch(0, 0, 5 + x);
                two.scratch(1, 1, 8 + y);
                boolean fine = Math.abs(x) <= 1 && Math.abs(y) <= 1;
                due("fits(-1) of two heard", two.fits(NONE), fine ? 5 : 0);
                due("fits(0) of two heard", two.fits(0), fine ? 1 << x + 3 : 0);
                due("fits(1) of two heard", two.fits(1), fine ? 1 << y + 3 : 0);
                due("fits(2) of two heard", two.fits(2), fine ? 62 : 0);
                due("lies() of two heard", two.lies(), (Math.abs(x) > 1 ? 1 : 0) + (Math.abs(y) > 1 ? 2 : 0));
            }
        // a GUARD who never turns, a SIGN that is not heard, one that is never there
        FarKeys k = land("g;g;s;so0v1;hs1", "b");
        k.scratch(0, NONE, 0);
        due("fits(-1) of one who never turns", k.fits(NONE), 0);
        k = land("g;g;s;so0v1;hs1", "b");
        k.scratch(0, 1, 0);
        due("fits(-1) of what is never there", k.fits(NONE), 0);
        k = land("g;g;s;so0v1;hs1", "b");
        k.scratch(0, 0, 0);
        due("fits(-1) of what is not heard", k.fits(NONE), 0);
        sentence = "FITS: how many ways (sign NONE), OFFS of a SIGN as bits. NONE: no such ones, no LAND";
        k = land("g;g;s;s");
        for (int s : FEW) due("fits(" + s + ")", k.fits(s), s == NONE ? 1 : s == 0 || s == 1 ? 8 : NONE);
    }

    private static void lying() {
        sentence = "the fewest SCRATCHES to be left out so that some way fits (bits; of several the least)";
        // bits of the SCRATCHES that tell -1, 0, 1, and the answer
        int[][] told = {{0}, {5}, {0, 0}, {0, 1}, {1, 0}, {-1, 0, 1}, {0, 0, 1}, {0, 1, 1}, {1, 0, 1}, {-1, -1, 0, 0},
            {0, 5, 0}, {5, 6}, {0, 0, 0, 0, 0, 1, 1, 1, 1, 1}, {5, 5, 5, 5, 5, 5, 5, 5, 5, 5}, {5, 5, 5, 5, 5, 5, 5, 5, 5, 1},
            {1, 1, 1, 1, 1, 1, 1, 1, 1, 5}, {1, -1, 1, -1, 1, -1, 1, -1, 0, 0}};
        int[] want = {0, 1, 0, 1, 1, 3, 4, 1, 2, 3,
            2, 3, 31, 1023, 511,
            512, 1 + 4 + 16 + 64 + 256 + 512};
        for (int i = 0; i < told.length; i++) {
            FarKeys k = land("g;g;st9e1;h", "a");
            for (int j = 0; j < told[i].length; j++) k.scratch(0, j % 2 - 1, 9 + told[i][j]);
            due("lies() of case " + i, k.lies(), want[i]);
            due("fits(-1) of case " + i, k.fits(NONE), want[i] == 0 ? 1 : 0);
            due("SCRATCHES are there still", k.count(6), told[i].length);
        }
        due("lies() of none", land("g;g;s").lies(), 0);
    }

    // ---- ==== 4

    private static void setsOfGuards() {
        sentence = "sets of GUARDS (bits, not 0) such that, if just these turn by their PLANS (the others never), it OPENS in all ways";
        for (int need = 2; need <= 4; need++) {
            for (int turning = 0; turning < 16; turning++) {
                String[] plans = new String[4];
                for (int g = 0; g < 4; g++) plans[g] = (turning >> g & 1) != 0 ? "a" : "";
                FarKeys k = four(need, 0, plans);
                int i = 0;
                for (int set = 1; set < 16; set++)
                    if (Integer.bitCount(set & turning) >= need) due("sets(" + i + ")", k.sets(i++), set);
                due("sets(-1)", k.sets(NONE), i);
                for (int none : new int[] {LOW, -3, -2, i, i + 1, 16, HIGH}) due("sets(" + none + ") of " + i, k.sets(none), NONE);
            }
        }
        // in all ways: two of three, one of which errs
        FarKeys k = land("g;g;g;st5;st5e1;h;hg1;hs1g2;bw0", "a", "a", "b");
        due("sets(-1) with an ERROR", k.sets(NONE), 2);
        due("sets(0) with an ERROR", k.sets(0), 3);
        due("sets(1) with an ERROR", k.sets(1), 7);
        due("sets(-1) of two", land("g;g;s;h;hg1", "a", "a").sets(NONE), 1);
        due("sets(0) of two", land("g;g;s;h;hg1", "a", "a").sets(0), 3);
    }

    private static void moments() {
        sentence = "the turn with which for the first time NEED of those that were are within BREATH";
        // turns at 2, 9, 11, 11 in any order of the GUARDS
        String[] plans = {"a+9", "a+11", "a+2", "a+11"};
        for (int breath = 0; breath <= 9; breath++) {
            due("two within " + breath, four(2, breath, plans).moment(0), breath >= 7 ? 9 : 11);
            due("three within " + breath, four(3, breath, plans).moment(0), breath >= 2 ? 11 : HIDDEN);
            due("four within " + breath, four(4, breath, plans).moment(0), breath >= 9 ? 11 : HIDDEN);
        }
        // of several at one part: 2, 2, 3
        due("two of 2, 2, 3", four(2, 9, "a+2", "a+3", "a+2").moment(0), 2);
        due("three of 2, 2, 3", four(3, 9, "a+2", "a+3", "a+2").moment(0), 3);
        sentence = "MOMENT: the earliest (0), the latest (1), the sum (2). HIDDEN: it never OPENS, no LAND, no such what";
        for (int breath = 0; breath <= 9; breath++) {
            // GUARD 1 at 3, behind GUARD 0 at -3 .. 3
            FarKeys k = land("g;g;se3;st3;h;hs1g1;bw" + breath, "a", "b");
            int open = Math.min(breath + 1, 7);
            due("moment(0)", k.moment(0), 3);
            due("moment(1)", k.moment(1), 3);
            due("moment(2)", k.moment(2), 3 * open);
            for (int what : FEW) if (what < 0 || what > 2) due("moment(" + what + ")", k.moment(what), HIDDEN);
            k.plan(0, NONE);
            for (int what = 0; what <= 2; what++) due("moment(" + what + ") of never", k.moment(what), HIDDEN);
        }
        FarKeys k = land("g;g;se3;h;hg1", "a", "a");
        due("moment(0) below 0", k.moment(0), -3);
        due("moment(1) below 0", k.moment(1), 3);
        due("moment(2) of 0", k.moment(2), 0);
        due("moment(2) below 0", land("g;g;se3;se3o0;h;hs1;hs1g1", "b", "b").moment(0), -6);
    }

    private static void betterPlans() {
        sentence = "in how many ways it OPENS with the one less with the other one";
        FarKeys k = land("g;g;st5;h;hg1");
        for (int plans = 0; plans <= 8; plans++) {
            for (int one : new int[] {LOW, -2, -1, 0, plans - 1, plans, 8, HIGH})
                for (int other : new int[] {-1, 0, plans - 1, plans, HIGH}) {
                    boolean fine = one >= 0 && one < plans && other >= 0 && other < plans;
                    due("better(0, " + one + ", " + other + ") of " + plans, k.better(0, one, other), fine ? 0 : HIDDEN);
                }
            if (plans < 8) tell(k, 1, "a");
        }
        for (int g : FEW) due("better(" + g + ", 0, 0)", k.better(g, 0, 0), g == 0 || g == 1 ? 0 : HIDDEN);
        k = land("g;g;st5e3;st5;h;hs1;hs1g1;bw0");
        for (String plan : new String[] {"b", "a", "b+1"}) tell(k, 1, plan);
        k.plan(1, 0);
        int[] open = {7, 1, 0};
        for (int one = 0; one < 3; one++)
            for (int other = 0; other < 3; other++)
                due("better(0, " + one + ", " + other + ")", k.better(0, one, other), open[one] - open[other]);
        due("guard(0, 2)", k.guard(0, 2), NONE);
        due("ways(0)", k.ways(0), 0);
    }

    private static void exactSigns() {
        sentence = "EXACT: the SIGN whose ERROR being 0 makes the ODDS greatest (of several the lowest): which; ODDS then";
        // GUARD 0 at x, GUARD 1 at y: alike in 1 of so many as the other one has OFFS
        for (int x = 0; x <= 3; x++)
            for (int y = 0; y <= 3; y++) {
                FarKeys k = land("g;g;st5e" + x + ";st5e" + y + ";h;hs1g1;bw0", "a", "b");
                int want = y <= x ? 0 : 1;
                due("exact(0) of " + x + " and " + y, k.exact(0), want);
                due("exact(1) of " + x + " and " + y, k.exact(1), 1);
                due("exact(2) of " + x + " and " + y, k.exact(2), 2 * Math.min(x, y) + 1);
                due("sign(0, 1)", k.sign(0, 1), x);
                due("ways(1)", k.ways(1), (2 * x + 1) * (2 * y + 1));
                for (int what : FEW) if (what < 0 || what > 2) due("exact(" + what + ")", k.exact(what), NONE);
            }
        FarKeys k = land("g;g;se3;se3;se3;se3;se3;h;hs1g1;bw0");
        due("exact(0) of never", k.exact(0), 0);
        due("exact(1) of never", k.exact(1), 0);
        due("exact(2) of never", k.exact(2), 1);
        due("exact(0) of the last", land("g;g;s;s;s;st9e1;st9e2;hs3;hs4g1;bw1", "d", "e").exact(0), 4);
        // greatest by the fraction, not by ways: with d exact in 3 of 5, with e exact in 3 of 3
        due("exact(1) of the last", land("g;g;s;s;s;st9e1;st9e2;hs3;hs4g1;bw1", "d", "e").exact(1), 1);
        due("exact(2) of the last", land("g;g;s;s;s;st9e1;st9e2;hs3;hs4g1;bw1", "d", "e").exact(2), 1);
        // it makes them less: the greatest of what there is then
        k = land("g;g;st5e1;st6;h;hs1g1;bw0", "a", "b");
        due("exact(0) of less", k.exact(0), 1);
        due("exact(1) of less", k.exact(1), 1);
        due("exact(2) of less", k.exact(2), 3);
    }

    private static void lossySigns() {
        sentence = "each SIGN is lost (never there) by RISK (0 .. 100) of 100";
        FarKeys one = land("g;g;s;h;hg1", "a", "a");
        FarKeys either = land("g;g;s;s;h;hs1;hg1;hs1g1", "a|b", "a|b");
        FarKeys both = land("g;g;s;s;h;hs1;hg1;hs1g1", "a&b", "a&b");
        for (int risk = -3; risk <= 103; risk++) {
            boolean fine = risk >= 0 && risk <= 100;
            due("lossy(" + risk + ")", one.lossy(risk), fine ? 1000000000 - 10000000 * risk : NONE);
            due("lossy(" + risk + ") of either", either.lossy(risk), fine ? 1000000000 - 100000 * risk * risk : NONE);
            due("lossy(" + risk + ") of both", both.lossy(risk), fine ? 100000 * (100 - risk) * (100 - risk) : NONE);
        }
        due("lossy(low)", one.lossy(LOW), NONE);
        due("lossy(high)", one.lossy(HIGH), NONE);
        sentence = "of the parts of each set so many as the ways in which it OPENS by all ways, cut: all together";
        // in 3 of 7 ways (c is heard by nobody): 10 to the 9 by 3 by 7 is 428571428 and 4 of 7
        FarKeys k = land("g;g;st9e3;st9;s;h;hs1g1;bw1", "a", "b");
        due("lossy(0) of 3 of 7", k.lossy(0), 428571428);
        // with c and without it half as many parts each: 125000000 by 3 by 7 is 53571428 and 4 of 7
        due("lossy(50) of 3 of 7", k.lossy(50), 2 * 53571428);
        due("lossy(100) of 3 of 7", k.lossy(100), 0);
        due("lossy(0) in 16807 ways", land("g;g;se3;se3;se3;se3;se3;hs4;hs4g1", "e", "e").lossy(0), 1000000000);
        sentence = "RISK by 100, cut, lost, the rest not";
        // parts of 5 SIGNS one behind the other: the fifth alone is needed
        k = land("g;g;s;s;s;s;s;hs4;hs4g1", "e", "e");
        for (int risk : new int[] {1, 3, 7, 33, 67, 93, 99}) due("lossy(" + risk + ") of the fifth", k.lossy(risk), notLost(risk));
    }

    /** What of 10 to the 9 is left of the fifth SIGN, each of the 16 sets ahead of it cut by itself. */
    private static long notLost(int risk) {
        BigInteger sum = BigInteger.ZERO;
        for (int set = 0; set < 16; set++) {
            BigInteger parts = BigInteger.TEN.pow(9);
            for (int sign = 0; sign < 5; sign++) {
                BigInteger lost = parts.multiply(BigInteger.valueOf(risk)).divide(BigInteger.valueOf(100));
                parts = (set >> sign & 1) != 0 ? lost : parts.subtract(lost);
            }
            sum = sum.add(parts);
        }
        return sum.longValueExact();
    }

    private static void routes() {
        sentence = "behind how many SIGNS one behind the other it goes out (0: behind none)";
        FarKeys k = land("g;g;st1;st2o0;st3o1v1;st4o2;st5o3v1;h;hs1g1d9;hs2d3;hs3g1d4;hs1");
        int[] together = {1, 3, 15, 22, 31};
        for (int s = 0; s < 5; s++) {
            due("route(" + s + ", 0)", k.route(s, 0), s);
            due("route(" + s + ", 1)", k.route(s, 1), together[s]);
        }
        for (int s : FEW)
            for (int what : FEW)
                if (s < 0 || s > 4 || what < 0 || what > 1) due("route(" + s + ", " + what + ")", k.route(s, what), NONE);
        // several behind one: each has its own way
        k = land("g;g;st1;st2o0;st3o0;st4;st5o1;hd6;hs1d7");
        int[] behind = {0, 1, 1, 0, 2};
        int[] far = {1, 9, 10, 4, 21};
        for (int s = 0; s < 5; s++) {
            due("route(" + s + ", 0)", k.route(s, 0), behind[s]);
            due("route(" + s + ", 1)", k.route(s, 1), far[s]);
        }
        sentence = "(its own PARTS, too; HIDDEN: it is never there)";
        // GUARD 1 hears nothing: b goes out never, nor does what is behind it; that is told nonetheless
        k = land("g;g;st1;st2o0v1;st3o1;st4;h;hs1");
        int[] never = {1, HIDDEN, HIDDEN, 4};
        for (int s = 0; s < 4; s++) due("route(" + s + ", 1)", k.route(s, 1), never[s]);
        due("route(2, 0) of what is never there", k.route(2, 0), 2);
        due("route(1, 0) of what is never there", k.route(1, 0), 1);
        due("route(4, 1)", k.route(4, 1), NONE);
        // ERRORS are not on that way, whatever OFFS have been told or drawn
        k = land("g;g;st1e3;st2e3o0;h;hs1", "b");
        for (int offs : new int[] {0, 6, 60, 66}) {
            due("turnsAt(" + offs + ", 0)", k.turnsAt(offs, 0), 3 + offs / 10 + offs % 10 - 6);
            due("route(0, 1) behind " + offs, k.route(0, 1), 1);
            due("route(1, 1) behind " + offs, k.route(1, 1), 3);
        }
        for (int night = 0; night < 10; night++) {
            k.night();
            due("route(0, 1) behind a NIGHT", k.route(0, 1), 1);
            due("route(1, 1) behind a NIGHT", k.route(1, 1), 3);
        }
        due("route(1, 1) with ERRORS", land("g;g;st1e1;st2e3o0;h").route(1, 1), 3);
        due("route(0, 1) of 0", land("g;g;se3").route(0, 1), 0);
    }

    private static void deafGuards() {
        sentence = "GUARDS (bits) without whose hearing (nothing at all) it would OPEN in fewer ways";
        due("deaf() of two", land("g;g;s;h;hg1", "a", "a").deaf(), 3);
        due("deaf() of three by two", land("g;g;g;s;h;hg1;hg2", "a", "a", "a").deaf(), 0);
        due("deaf() of three by three", land("g;g;g;s;h;hg1;hg2;bn3", "a", "a", "a").deaf(), 7);
        due("deaf() of four", four(4, 0, "a", "a", "a", "a").deaf(), 15);
        due("deaf() of never", land("g;g;s;h;hg1", "a").deaf(), 0);
        // GUARD 2 turns never, but sends b
        due("deaf() of one who sends", land("g;g;g;s;so0v2;hg2;hs1;hs1g1", "b", "b").deaf(), 7);
        // with it in one of 7 ways; without it b is never there, not late, though a is below 0
        FarKeys late = land("g;g;g;se3;so0v2;st3;hg2;hs1;hs1g1;hs2g1;bw0", "b", "b&c");
        due("ways(0) of one who sends", late.ways(0), 1);
        due("deaf() of one who sends in one way", late.deaf(), 7);
        due("deaf() of one who sends below 0", land("g;g;g;se3;se3o0v2;hg2;hs1;hs1g1", "b", "b").deaf(), 7);
        // without GUARD 2 b is never there: GUARD 1 turns a part later
        FarKeys k = land("g;g;g;st9;so0v2;hg2;h;hg1;hs1g1;st9;hs2;bw0", "c", "a&b|a+1");
        due("ways(0)", k.ways(0), 1);
        due("deaf() of one whose b is needed", k.deaf(), 7);
        // without GUARD 2 GUARD 0 turns later, as GUARD 1 does: more ways, not fewer
        k = land("g;g;g;st9;so0v2;hg2;hs1;hg1;st9;hs2;bw0", "c+1&b|c+5", "a+5");
        due("ways(0) of one who spoils", k.ways(0), 0);
        due("deaf() of more ways", k.deaf(), 0);
        // one way fewer is fewer: GUARD 0 at 8, 9, 10, GUARD 1 at 9, GUARD 2 at 10
        k = land("g;g;g;st9e1;st9;h;hs1g1;hs1g2d1;bw0", "a", "b", "b");
        due("ways(0)", k.ways(0), 2);
        due("deaf() of one way fewer", k.deaf(), 7);
    }

    private static void helpers() {
        sentence = "HELPERS: which (0), in how many ways (1). NONE: all hear all, no LAND, no such what";
        for (int guards = 2; guards <= 4; guards++) {
            for (int signs = 1; signs <= 5 && guards * signs <= 12; signs++) {
                int all = guards * signs;
                for (int out = -1; out < all; out++) {
                    StringBuilder text = new StringBuilder("s" + ";s".repeat(signs - 1) + ";g".repeat(guards));
                    for (int i = 0; i < all; i++) if (i != out) text.append(";hs").append(i % signs).append("g").append(i / signs);
                    FarKeys k = land(text.toString());
                    due("helper(0) without " + out, k.helper(0), out < 0 ? NONE : 10 * (out / signs) + out % signs);
                    due("helper(1) without " + out, k.helper(1), out < 0 ? NONE : 0);
                }
            }
        }
        sentence = "heard 0 later, it OPENS in most ways (of several the lowest GUARD, then SIGN)";
        FarKeys k = land("g;g;g;st5e1;st6;h;bw0", "a", "a", "b");
        due("helper(0)", k.helper(0), 10);
        due("helper(1)", k.helper(1), 3);
        due("ways(0)", k.ways(0), 0);
        due("hears(1, 0)", k.hears(1, 0), NONE);
        k.plan(1, NONE);
        due("helper(0) of one way", k.helper(0), 21);
        due("helper(1) of one way", k.helper(1), 1);
        k.plan(2, NONE);
        due("helper(0) of no way", k.helper(0), 1);
        due("helper(1) of no way", k.helper(1), 0);
        for (int what : FEW) if (what != 0 && what != 1) due("helper(" + what + ")", k.helper(what), NONE);
        // two SIGNS alike, two GUARDS alike
        k = land("g;g;g;g;st5;st5;h;hs1;bw0", "a", "", "a|b", "a|b");
        due("helper(0) of the lowest", k.helper(0), 20);
        k = land("g;g;s;s;hs1;hs1g1;bw0", "a&b", "b");
        due("helper(0) of the first", k.helper(0), 0);
        due("helper(1) of the first", k.helper(1), 1);
    }

    // ---- NIGHTS

    private static final class Draws {
        private static final BigInteger ROUND = BigInteger.ONE.shiftLeft(64);
        private BigInteger x;

        Draws(long seed) {
            x = BigInteger.valueOf(seed).mod(ROUND);
        }

        int of(int many) {
            x = x.multiply(new BigInteger("6364136223846793005")).add(new BigInteger("1442695040888963407")).mod(ROUND);
            return x.shiftRight(33).mod(BigInteger.valueOf(many)).intValue();
        }
    }

    private static final String NIGHTLY = "g;g;g;g;st9e1;st9e2;st9e3;st9;st9e3;h;hs1g1;hs2g2;hs4g3;bw0";
    private static final int[] ERRORS = {1, 2, 3, 0, 3};

    private static FarKeys nightly() {
        return land(NIGHTLY, "a", "b", "c", "e");
    }

    /** The next NIGHT by these draws; d has a draw of 1, which nobody hears. */
    private static void nightBy(FarKeys k, Draws draws, int night) {
        int[] turn = new int[5];
        for (int s = 0; s < 5; s++) turn[s] = 9 + draws.of(2 * ERRORS[s] + 1) - ERRORS[s];
        turn[3] = turn[4];
        boolean open = false;
        for (int g = 0; g < 4; g++) for (int h = 0; h < g; h++) open |= turn[g] == turn[h];
        due("night() " + night, k.night(), open ? 1 : 0);
        due("opened(" + night + ")", k.opened(night), open ? 1 : 0);
        for (int g = 0; g < 4; g++) due("turned(" + night + ", " + g + ")", k.turned(night, g), turn[g]);
    }

    private static void draws() {
        sentence = "becomes x times 6364136223846793005 and 1442695040888963407 (64 bits, going round)";
        long[] seeds = {0, 1, -1, Long.MAX_VALUE, Long.MIN_VALUE, 1L << 32, -1L << 33, 6364136223846793005L, 1234567890123456789L};
        for (long seed : seeds) {
            FarKeys k = nightly();
            due("seed(" + seed + ")", k.seed(seed), true);
            Draws draws = new Draws(seed);
            for (int night = 0; night < 40; night++) nightBy(k, draws, night);
        }
        sentence = "x, at first the seed told (0 at first)";
        FarKeys k = nightly();
        Draws draws = new Draws(0);
        for (int night = 0; night < 5; night++) nightBy(k, draws, night);
        sentence = "The seed of draws from now on: true";
        due("seed(5)", k.seed(5), true);
        draws = new Draws(5);
        for (int night = 5; night < 10; night++) nightBy(k, draws, night);
        due("seed(5) again", k.seed(5), true);
        nightBy(k, new Draws(5), 10);
        due("NIGHTS ahead are as they were", k.turned(5, 0) - k.turned(10, 0), 0);
        // told without a LAND, and it stays with the next one
        k = new FarKeys();
        due("seed(77) without a LAND", k.seed(77), true);
        tell(k, 0, NIGHTLY);
        String[] plans = {"a", "b", "c", "e"};
        for (int g = 0; g < 4; g++) turnBy(k, g, plans[g]);
        draws = new Draws(77);
        nightBy(k, draws, 0);
        tell(k, 0, NIGHTLY);
        for (int g = 0; g < 4; g++) k.plan(g, g);
        nightBy(k, draws, 0);
    }

    private static void nightsAtMost() {
        sentence = "They are put by (40 at most, no more then)";
        FarKeys k = nightly();
        Draws draws = new Draws(0);
        for (int night = 0; night < 40; night++) {
            nightBy(k, draws, night);
            due("NIGHTS", k.count(7), night + 1);
        }
        int opened = k.count(8);
        for (int i = 0; i < 3; i++) due("night() of a 41st", k.night(), NONE);
        due("NIGHTS", k.count(7), 40);
        due("opened NIGHTS", k.count(8), opened);
        due("opened(40)", k.opened(40), NONE);
        due("turned(40, 0)", k.turned(40, 0), HIDDEN);
        // no draw was made by what was refused: the 41st comes in another LAND
        tell(k, 0, NIGHTLY);
        for (int g = 0; g < 4; g++) k.plan(g, g);
        nightBy(k, draws, 0);
    }

    private static void nightsAsked() {
        sentence = "Of a NIGHT: when a GUARD turned (HIDDEN: never; no such ones)";
        for (int nights : new int[] {0, 1, 2, 39, 40}) {
            FarKeys k = land("g;g;g;st7;h;hg1", "a", "a+5", "a");
            for (int i = 0; i < nights; i++) due("night()", k.night(), 0);
            for (int n : new int[] {LOW, -2, -1, 0, 1, nights - 1, nights, nights + 1, 39, 40, 41, HIGH}) {
                boolean fine = n >= 0 && n < nights;
                due("opened(" + n + ") of " + nights, k.opened(n), fine ? 0 : NONE);
                for (int g : new int[] {LOW, -1, 0, 1, 2, 3, 4, HIGH})
                    due("turned(" + n + ", " + g + ") of " + nights, k.turned(n, g), fine && g == 0 ? 7 : fine && g == 1 ? 12 : HIDDEN);
            }
        }
        // as it was that NIGHT, whatever PLANS there are since
        FarKeys k = land("g;g;st7;h;hg1", "a", "a+1");
        due("night()", k.night(), 1);
        k.plan(0, NONE);
        due("night() without", k.night(), 0);
        due("turned(0, 0)", k.turned(0, 0), 7);
        due("turned(1, 0)", k.turned(1, 0), HIDDEN);
        due("opened(0)", k.opened(0), 1);
        due("opened(1)", k.opened(1), 0);
    }

    private static void nightsUndone() {
        sentence = "The latest NIGHT is UNDONE: how many there are. NONE: none";
        FarKeys k = nightly();
        due("undo() of none", k.undo(), NONE);
        Draws draws = new Draws(0);
        for (int night = 0; night < 40; night++) k.night();
        for (int left = 39; left >= 0; left--) {
            due("undo()", k.undo(), left);
            due("NIGHTS", k.count(7), left);
            due("opened(" + left + ")", k.opened(left), NONE);
        }
        due("undo() of none", k.undo(), NONE);
        due("undo() of none", k.undo(), NONE);
        due("NIGHTS", k.count(7), 0);
        sentence = "The latest can be UNDONE (draws, too)";
        for (int night = 0; night < 3; night++) nightBy(k, draws, night);
        due("undo()", k.undo(), 2);
        draws = new Draws(0);
        for (int i = 0; i < 10; i++) draws.of(1);
        nightBy(k, draws, 2);
        // one that was refused is not undone: the 40th is
        k = land("g;g;st9e3;h;hg1", "a", "a");
        draws = new Draws(0);
        int[] turn = new int[41];
        for (int night = 0; night < 41; night++) turn[night] = 9 + draws.of(7) - 3;
        for (int night = 0; night < 40; night++) due("night()", k.night(), 1);
        due("night() of a 41st", k.night(), NONE);
        due("turned(39, 0)", k.turned(39, 0), turn[39]);
        due("undo()", k.undo(), 39);
        due("night() again", k.night(), 1);
        due("turned(39, 0) again", k.turned(39, 0), turn[39]);
    }

    private static void images() {
        sentence = "An IMAGE (instead of the one ahead): how many NIGHTS. NONE: no LAND";
        for (int nights : new int[] {0, 1, 39, 40}) {
            FarKeys k = land("g;g;st9e3;h;hg1", "a", "a");
            Draws draws = new Draws(0);
            for (int i = 0; i < nights; i++) k.night();
            for (int i = 0; i < nights; i++) draws.of(7);
            due("image()", k.image(), nights);
            due("NIGHTS", k.count(7), nights);
            if (nights == 40) due("undo()", k.undo(), 39);
            k.seed(99);
            due("night()", k.night(), 1);
            due("back()", k.back(), nights);
            due("NIGHTS", k.count(7), nights);
            due("night() behind back()", k.night(), nights == 40 ? NONE : 1);
            if (nights < 40) due("turned(" + nights + ", 0)", k.turned(nights, 0), 6 + draws.of(7));
            due("back() once more", k.back(), nights);
        }
        sentence = "BACK: how many NIGHTS. NONE: no IMAGE of this LAND";
        FarKeys k = land("g;g;s;h", "a");
        due("back() of none", k.back(), NONE);
        k.image();
        due("back()", k.back(), 0);
        due("text(0) with a FAULT", tell(k, 0, "g;g"), NONE);
        due("back() behind a FAULT", k.back(), 0);
        due("text(0)", tell(k, 0, "g;g;s;h"), 2);
        due("back() in another LAND", k.back(), NONE);
        due("guard(0, 2)", k.guard(0, 2), NONE);
        k.night();
        due("image()", k.image(), 1);
        due("back()", k.back(), 1);
        sentence = "An IMAGE keeps PLANS of GUARDS, SCRATCHES, NIGHTS, draws; BACK: they are so again";
        k = four(2, 0, "a", "a+1", "a+2", "");
        for (int i = 0; i < 10; i++) k.scratch(i % 4, 0, i);
        k.image();
        for (int g = 0; g < 4; g++) k.plan(g, 2 - g < 0 ? NONE : 2 - g);
        k.back();
        for (int g = 0; g < 4; g++) due("guard(" + g + ", 2)", k.guard(g, 2), g < 3 ? g : NONE);
        due("SCRATCHES", k.count(6), 10);
        due("scratch of an eleventh", k.scratch(0, 0, 0), NONE);
        due("lies()", k.lies(), 1022);
        k = four(2, 0, "a");
        k.scratch(0, NONE, 0);
        k.image();
        for (int i = 0; i < 9; i++) k.scratch(1, 0, 99);
        due("lies() of nine", k.lies(), 1022);
        k.back();
        due("SCRATCHES", k.count(6), 1);
        due("lies() of none", k.lies(), 0);
        due("scratch of a second", k.scratch(1, 0, 99), 2);
        // PLANS themselves are not of it
        k = land("g;g;s;h", "a");
        k.image();
        tell(k, 1, "a+5");
        k.plan(0, 1);
        k.back();
        due("PLANS", k.count(2), 2);
        due("guard(0, 2)", k.guard(0, 2), 0);
        due("plan(0, 1)", k.plan(0, 1), true);
    }

    // ---- counting

    private static void counts() {
        sentence = "4 NEED, 5 BREATH (0 each without a LAND)";
        FarKeys k = new FarKeys();
        for (int what = 0; what <= 8; what++) due("count(" + what + ") without a LAND", k.count(what), 0);
        tell(k, 1, "a");
        feedText(k, "g;g");
        int[] bare = {0, 0, 1, 3, 0, 0, 0, 0, 0};
        for (int what = 0; what <= 8; what++) due("count(" + what + ") without a LAND", k.count(what), bare[what]);
        for (int need = 2; need <= 4; need++)
            for (int breath = 0; breath <= 9; breath++) {
                due("NEED", four(need, breath).count(4), need);
                due("BREATH", four(need, breath).count(5), breath);
            }
        sentence = "8 in how many of these it OPENED. HIDDEN for others";
        for (int what : new int[] {LOW, -2, -1, 9, 10, HIGH}) {
            due("count(" + what + ")", k.count(what), HIDDEN);
            due("count(" + what + ")", four(2, 0).count(what), HIDDEN);
        }
        k = land("g;g;s;h;hg1;bw0", "a", "a");
        for (int night = 0; night < 40; night++) {
            k.plan(1, night % 3 == 0 ? 0 : NONE);
            k.night();
            due("opened NIGHTS of " + (night + 1), k.count(8), night / 3 + 1);
        }
        for (int night = 39; night >= 0; night--) {
            k.undo();
            due("opened NIGHTS of " + night, k.count(8), (night + 2) / 3);
        }
    }

    private static void allCallsOfOneObject() {
        sentence = "An object is used for at most 512 calls after it has been made";
        FarKeys k = new FarKeys();
        for (int i = 0; i < 7; i++) due("feed", k.feed(0x20202020, 0x20202020, 0x20202020, 0x20202020, 0x20202020), 20 * (i + 1));
        feedText(k, "g;g;st9e3;h;hg1");
        due("text(0)", k.text(0), 2);
        feedText(k, "a");
        due("text(1)", k.text(1), 0);
        due("plan(0, 0)", k.plan(0, 0), true);
        due("plan(1, 0)", k.plan(1, 0), true);
        for (int i = 13; i < 511; i += 2) {
            due("night()", k.night(), 1);
            due("undo()", k.undo(), 0);
        }
        due("ways(0) as the 512th", k.ways(0), 7);
    }
}
