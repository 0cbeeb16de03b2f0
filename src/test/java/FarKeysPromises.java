import java.util.NoSuchElementException;

/**
 * Each promise of the document by itself: ordinary calls, the edges it names, and wrong ones. The
 * numbers have been worked out by hand from the document's words.
 *
 * <p>Most of them speak of one LAND (LAND below): SIGN a is at 10 and x (x from -1 to 1); GUARD 0
 * hears it at 11 + x, GUARD 1 at 12 + x and then sends b, which is at 16 + x + y (y from -2 to 2);
 * GUARD 2 hears that at once, GUARD 0 at 19 + x + y. In scene() GUARD 0 turns by a+3 (14 + x), GUARD
 * 2 by b (16 + x + y), so that they are 2 + y apart: it OPENS with y from -2 to 0, in 9 of 15 ways.
 */
public final class FarKeysPromises {
    private static final int NONE = -1;
    private static final int HIDDEN = -1000000;
    private static final int LOW = Integer.MIN_VALUE;
    private static final int HIGH = Integer.MAX_VALUE;
    private static final String LAND = "gp20t3;gt7;gp5;st10e1;st4e2o0v1;hd1;hg1d2;hs1d3;hs1g2;bw2";
    private static final String[] PLANS = {"a", "b", "a+5", "a+3", "a|b", "a&b", "c", "a+2"};

    private static int promise = 0;
    private static int checks = 0;
    private static int wrong = 0;

    private static void due(String call, long got, long want) {
        checks++;
        if (got != want) {
            wrong++;
            System.out.println("promise " + promise + ": " + call + " answered " + got + ", due is " + want);
        }
    }

    private static void due(String call, boolean got, boolean want) {
        due(call, got ? 1 : 0, want ? 1 : 0);
    }

    private static void feedText(FarKeys k, String text) {
        for (int from = 0; from < text.length(); from += 20) {
            int[] five = new int[5];
            for (int i = 0; i < 20; i++) {
                int b = from + i < text.length() ? text.charAt(from + i) : 0;
                five[i / 4] = five[i / 4] << 8 | b;
            }
            k.feed(five[0], five[1], five[2], five[3], five[4]);
        }
    }

    private static int tell(FarKeys k, int sort, String text) {
        k.end(0);
        feedText(k, text);
        return k.text(sort);
    }

    private static FarKeys landOf(String text, String... plans) {
        FarKeys k = new FarKeys();
        due("text of " + text, tell(k, 0, text) >= 2, true);
        for (int i = 0; i < plans.length; i++) due("text of " + plans[i], tell(k, 1, plans[i]), i);
        return k;
    }

    private static FarKeys scene() {
        FarKeys k = landOf(LAND, PLANS);
        k.plan(0, 3);
        k.plan(2, 1);
        return k;
    }

    private static void fault(int sort, String text, int want) {
        FarKeys k = new FarKeys();
        feedText(k, text);
        due("fault(" + sort + ") of '" + text + "'", k.fault(sort), want);
        due("bytes behind fault(" + sort + ") of '" + text + "'", k.count(3), text.length());
        due("text(" + sort + ") of '" + text + "' is refused", k.text(sort) == NONE, want != NONE);
        due("bytes behind text(" + sort + ") of '" + text + "'", k.count(3), want == NONE ? 0 : text.length());
    }

    public static void main(String[] args) {
        for (promise = 1; promise <= 44; promise++) {
            int ahead = checks;
            one(promise);
            if (checks == ahead) due("tests of this promise", 0, 1);
        }
        System.out.println(wrong == 0 ? "all " + checks + " checks hold" : wrong + " of " + checks + " checks do not hold");
        if (wrong != 0) System.exit(1);
    }

    private static void one(int number) {
        switch (number) {
            case 1: aNewObject(); break;
            case 2: feed(); break;
            case 3: end(); break;
            case 4: faultOfLands(); faultOfPlans(); break;
            case 5: text(); break;
            case 6: sign(); break;
            case 7: guard(); break;
            case 8: hears(); break;
            case 9: plan(); break;
            case 10: ways(); break;
            case 11: odds(); break;
            case 12: turnsAt(); turnsByPlans(); break;
            case 13: opens(); break;
            case 14: when(); break;
            case 15: near(); break;
            case 16: enough(); break;
            case 17: best(); break;
            case 18: pair(); break;
            case 19: sure(); break;
            case 20: idle(); break;
            case 21: shift(); break;
            case 22: waits(); break;
            case 23: gain(); break;
            case 24: rest(); break;
            case 25: thief(); break;
            case 26: scratch(); break;
            case 27: fits(); break;
            case 28: lies(); break;
            case 29: sets(); break;
            case 30: moment(); break;
            case 31: better(); break;
            case 32: exact(); break;
            case 33: lossy(); break;
            case 34: route(); break;
            case 35: deaf(); break;
            case 36: helper(); break;
            case 37: seed(); break;
            case 38: night(); break;
            case 39: turned(); break;
            case 40: opened(); break;
            case 41: undo(); break;
            case 42: image(); break;
            case 43: back(); break;
            default: count(); break;
        }
    }

    private static void aNewObject() {
        FarKeys k = new FarKeys();
        for (int what = 0; what <= 8; what++) due("count(" + what + ")", k.count(what), 0);
        due("end(0)", k.end(0), true);
        due("end(1)", k.end(1), false);
        due("fault(0)", k.fault(0), 0);
        due("text(0)", k.text(0), NONE);
        due("text(1)", k.text(1), NONE);
        due("guard(0, 0)", k.guard(0, 0), NONE);
        due("hears(0, 0)", k.hears(0, 0), NONE);
        due("plan(0, -1)", k.plan(0, NONE), false);
        due("ways(1)", k.ways(1), NONE);
        due("odds(1)", k.odds(1), NONE);
        due("turnsAt(0, 0)", k.turnsAt(0, 0), HIDDEN);
        due("opens(0)", k.opens(0), NONE);
        due("when(0, 2)", k.when(0, 2), HIDDEN);
        due("near(0)", k.near(0), NONE);
        due("enough()", k.enough(), NONE);
        due("best(0, 0)", k.best(0, 0), NONE);
        due("pair(0, 1, 0)", k.pair(0, 1, 0), NONE);
        due("sure(0, 1)", k.sure(0, 1), NONE);
        due("idle()", k.idle(), NONE);
        due("shift(0, 0)", k.shift(0, 0), NONE);
        due("waits(0, 0)", k.waits(0, 0), NONE);
        due("gain(0)", k.gain(0), NONE);
        due("rest(0, 1, -1)", k.rest(0, 1, NONE), NONE);
        due("thief(0, 0)", k.thief(0, 0), NONE);
        due("scratch(0, -1, 0)", k.scratch(0, NONE, 0), NONE);
        due("fits(-1)", k.fits(NONE), NONE);
        due("lies()", k.lies(), NONE);
        due("sets(-1)", k.sets(NONE), NONE);
        due("moment(2)", k.moment(2), HIDDEN);
        due("better(0, 0, 0)", k.better(0, 0, 0), HIDDEN);
        due("exact(0)", k.exact(0), NONE);
        due("lossy(0)", k.lossy(0), NONE);
        due("route(0, 0)", k.route(0, 0), NONE);
        due("deaf()", k.deaf(), NONE);
        due("helper(0)", k.helper(0), NONE);
        due("seed(0)", k.seed(0), true);
        due("night()", k.night(), NONE);
        due("turned(0, 0)", k.turned(0, 0), HIDDEN);
        due("opened(0)", k.opened(0), NONE);
        due("undo()", k.undo(), NONE);
        due("image()", k.image(), NONE);
        due("back()", k.back(), NONE);
        due("NONE", FarKeys.NONE, NONE);
        due("HIDDEN", FarKeys.HIDDEN, HIDDEN);
    }

    private static void feed() {
        FarKeys k = new FarKeys();
        due("feed of five bytes among zeros", k.feed(0x67003B00, 0, 0x0000673B, 0, 0x73), 5);
        due("fault(0)", k.fault(0), NONE);
        due("feed of nothing", k.feed(0, 0, 0, 0, 0), 5);
        k.end(0);
        due("feed of a byte above 127", k.feed(0x673B673B, 0x73C00000, 0, 0, 0), 6);
        due("fault(0)", k.fault(0), 5);
        k.end(0);
        due("feed of the highest byte", k.feed(0xFF000000, 0, 0, 0, 0), 1);
        due("fault(1)", k.fault(1), 0);
        k.end(0);
        for (int i = 1; i <= 7; i++) due("feed", k.feed(0x20202020, 0x20202020, 0x20202020, 0x20202020, 0x20202020), 20 * i);
        due("feed to 155", k.feed(0x20202020, 0x20202020, 0x20202020, 0x20202000, 0), 155);
        int four = 0x20202020;
        due("feed beyond 160", k.feed(four, 0x20200000, 0, 0, 0), NONE);
        due("feed beyond 160", k.feed(0, 0x20200000, four, 0, 0), NONE);
        due("feed beyond 160", k.feed(0, 0, 0x2020, four, 0), NONE);
        due("feed beyond 160", k.feed(0, 0, 0, 0x2020, four), NONE);
        due("feed beyond 160", k.feed(four, 0, 0, 0, 0x2020), NONE);
        due("bytes", k.count(3), 155);
        due("feed to 160", k.feed(0x20002000, 0x20002000, 0x61, 0, 0), 160);
        due("fault(1)", k.fault(1), NONE);
        due("feed of one more", k.feed(0, 0, 0, 0, 1), NONE);
        due("feed of nothing", k.feed(0, 0, 0, 0, 0), 160);
        due("fault(1)", k.fault(1), NONE);
    }

    private static void end() {
        FarKeys k = new FarKeys();
        feedText(k, "a+5|b");
        due("end(6)", k.end(6), false);
        due("end(-1)", k.end(-1), false);
        due("end(low)", k.end(LOW), false);
        due("end(high)", k.end(HIGH), false);
        due("bytes", k.count(3), 5);
        due("end(5)", k.end(5), true);
        due("bytes", k.count(3), 5);
        due("end(3)", k.end(3), true);
        due("bytes", k.count(3), 3);
        due("fault(1)", k.fault(1), NONE);
        due("end(5)", k.end(5), false);
        feedText(k, "7");
        due("fault(1) of a+57", k.fault(1), NONE);
        due("end(0)", k.end(0), true);
        due("bytes", k.count(3), 0);
        due("end(0)", k.end(0), true);
    }

    private static void faultOfLands() {
        fault(0, "g;g;s", NONE);
        fault(0, "s;g;g", NONE);
        fault(0, "hs4g3d9;g;g;s;s;s;s;s;b;g;g", NONE);
        fault(0, "gp99t99;gt0p0;st59e3v3;st00e03o0v1;bn4w9", NONE);
        fault(0, " g ; gp 05 t7 ;s ", NONE);
        fault(0, "", 0);
        fault(0, "   ", 3);
        fault(0, ";", 0);
        fault(0, "g;", 2);
        fault(0, "g;;g;s", 2);
        fault(0, "g;g", 3);
        fault(0, "g;s ", 4);
        fault(0, "s;s", 3);
        fault(0, "g;g;s;", 6);
        fault(0, "g;g;s;  ", 8);
        fault(0, "g;g;S", 4);
        fault(0, "gg;s", 1);
        fault(0, "ge1;g;s", 1);
        fault(0, "g;g;sp1", 5);
        fault(0, "g;g;s;hd1t1", 9);
        fault(0, "g;g;s;hs0g0d1s", 13);
        fault(0, "g;g;s;bn2w1n", 11);
        fault(0, "g;g;bp2", 5);
        fault(0, "gp;g;s", 2);
        fault(0, "gp", 2);
        fault(0, "gp  ", 4);
        fault(0, "gpt1;g;s", 2);
        fault(0, "gp1 2;g;s", 4);
        fault(0, "gp100;g;s", 4);
        fault(0, "gt999", 4);
        fault(0, "gp1t2p", 5);
        fault(0, "g;g;st1t", 7);
        fault(0, "g;g;st59", NONE);
        fault(0, "g;g;st60", 7);
        fault(0, "g;g;st600", 8);
        fault(0, "g;g;st60 0", 7);
        fault(0, "g;g;se3", NONE);
        fault(0, "g;g;se4x", 6);
        fault(0, "g;g;se40", 7);
        fault(0, "g;g;se400", 8);
        fault(0, "g;g;so0", 6);
        fault(0, "g;g;so00", 7);
        fault(0, "g;g;so000", 8);
        fault(0, "g;g;s;s;so1", NONE);
        fault(0, "g;g;s;s;so2", 10);
        fault(0, "g;g;sv4", 6);
        fault(0, "g;g;sv3", NONE);
        fault(0, "g;g;s;so0v2", 11);
        fault(0, "g;g;s;sv2o0;g", NONE);
        fault(0, "g;g;s;hs5", 8);
        fault(0, "g;g;s;hg4", 8);
        fault(0, "g;g;s;hd9", NONE);
        fault(0, "g;g;s;hd10", 9);
        fault(0, "g;g;s;hs1", 9);
        fault(0, "g;g;s;hg2 ", 10);
        fault(0, "hg2;g;g;s;g", NONE);
        fault(0, "h;hs0g0d3;g;g;s", 15);
        fault(0, "h;hg1;g;g;s", NONE);
        fault(0, "g;g;s;bn1", 8);
        fault(0, "g;g;s;bn02", NONE);
        fault(0, "g;g;s;bn5", 8);
        fault(0, "g;g;s;bw9", NONE);
        fault(0, "g;g;s;bw10", 9);
        fault(0, "g;g;s;b;b", 8);
        fault(0, "g;g;g;g;s", NONE);
        fault(0, "g;g;g;g;s; g", 11);
        fault(0, "g;g;s;s;s;s;s", NONE);
        fault(0, "g;g;s;s;s;s;s;s", 14);
        String twelve = "g;g;g;s;s;s;s;h;hg1;hg2;hs1;hs1g1;hs1g2;hs2;hs2g1;hs2g2;hs3;hs3g1;hs3g2";
        fault(0, twelve, NONE);
        fault(0, twelve + ";s;hs4", twelve.length() + 3);
        fault(0, "g;g;s" + (char) 233, 5);
        FarKeys k = new FarKeys();
        due("fault(2)", k.fault(2), -2);
        due("fault(-1)", k.fault(-1), -2);
        due("fault(low)", k.fault(LOW), -2);
    }

    private static void faultOfPlans() {
        fault(1, "a", NONE);
        fault(1, "e+99", NONE);
        fault(1, "a+00&b|c&d|e", NONE);
        fault(1, " ( a | b+1 ) & ( c ) ", NONE);
        fault(1, "", 0);
        fault(1, "  ", 2);
        fault(1, "f", 0);
        fault(1, "A", 0);
        fault(1, "+1", 0);
        fault(1, "ab", 1);
        fault(1, "a b", 2);
        fault(1, "a|", 2);
        fault(1, "a&|b", 2);
        fault(1, "|a", 0);
        fault(1, "a+", 2);
        fault(1, "a+ ", 3);
        fault(1, "a+b", 2);
        fault(1, "a+1+2", 3);
        fault(1, "a+1 2", 4);
        fault(1, "a+123", 4);
        fault(1, "a1", 1);
        fault(1, "()", 1);
        fault(1, "a)", 1);
        fault(1, "(a))", 3);
        fault(1, "(a", 2);
        fault(1, "(a|", 3);
        fault(1, "(a)b", 3);
        fault(1, "(a)(b)", 3);
        fault(1, "(a)+1", 3);
        fault(1, "a(b)", 1);
        fault(1, "((((((a))))))|((((((b))))))", NONE);
        fault(1, "(((((((a)))))))", 6);
        fault(1, "((((((a|(b", 8);
        fault(1, "a" + (char) 160, 1);
    }

    private static void text() {
        FarKeys k = new FarKeys();
        due("text(0) of four", tell(k, 0, "g;g;s;g;g"), 4);
        due("bytes", k.count(3), 0);
        due("text(0) of nothing", k.text(0), NONE);
        due("guards", k.count(0), 4);
        for (int i = 0; i < 8; i++) due("text(1)", tell(k, 1, "a+" + i), i);
        due("a ninth", tell(k, 1, "a"), NONE);
        due("bytes", k.count(3), 1);
        due("fault(1)", k.fault(1), NONE);
        due("plans", k.count(2), 8);
        due("text(0) of a PLAN", k.text(0), NONE);
        due("text(2)", k.text(2), NONE);
        due("text(-1)", k.text(-1), NONE);
        due("bytes", k.count(3), 1);
        allOfAnotherLandIsGone();
        plansAreToldWithoutALand();
    }

    private static void allOfAnotherLandIsGone() {
        FarKeys k = scene();
        k.night();
        k.scratch(0, NONE, 1);
        k.image();
        due("text(0) with a fault", tell(k, 0, "g;g;s;"), NONE);
        due("nights", k.count(7), 1);
        due("scratches", k.count(6), 1);
        due("plan of 0", k.guard(0, 2), 3);
        due("back()", k.back(), 1);
        due("text(0)", tell(k, 0, LAND), 3);
        due("nights", k.count(7), 0);
        due("opened nights", k.count(8), 0);
        due("scratches", k.count(6), 0);
        due("plans", k.count(2), 8);
        due("plan of 0", k.guard(0, 2), NONE);
        due("plan of 2", k.guard(2, 2), NONE);
        due("ways(0)", k.ways(0), 0);
        due("back()", k.back(), NONE);
        k.plan(0, 0);
        k.plan(2, 1);
        k.night();
        // the draws went on: behind OFFS 1, 2 come 0, -1
        due("turned(0, 0)", k.turned(0, 0), 11);
        due("turned(0, 2)", k.turned(0, 2), 15);
        due("text(0) of a smaller one", tell(k, 0, "g;g;s"), 2);
        due("signs", k.count(1), 1);
        due("need", k.count(4), 2);
        due("breath", k.count(5), 1);
        due("hears(0, 0)", k.hears(0, 0), NONE);
        due("guard(2, 0)", k.guard(2, 0), NONE);
    }

    private static void plansAreToldWithoutALand() {
        FarKeys k = new FarKeys();
        due("text(1)", tell(k, 1, "b"), 0);
        due("text(1)", tell(k, 1, "a"), 1);
        due("plans", k.count(2), 2);
        due("guards", k.count(0), 0);
        due("text(0)", tell(k, 0, LAND), 3);
        due("plan(0, 1)", k.plan(0, 1), true);
        due("turnsAt(33, 0)", k.turnsAt(33, 0), 11);
    }

    private static void noSign(FarKeys k, int sign, int what) {
        boolean thrown = false;
        try {
            k.sign(sign, what);
        } catch (NoSuchElementException e) {
            thrown = true;
        }
        due("sign(" + sign + ", " + what + ") throws", thrown, true);
    }

    private static void sign() {
        FarKeys k = landOf("g;g;st7e2;s;sv1o1t59e3;sv3");
        int[] want = {7, 2, NONE, 0, 0, 0, NONE, 0, 59, 3, 1, 1, 0, 0, NONE, 3};
        for (int i = 0; i < 16; i++) due("sign(" + i / 4 + ", " + i % 4 + ")", k.sign(i / 4, i % 4), want[i]);
        noSign(k, 4, 0);
        noSign(k, -1, 0);
        noSign(k, 0, 4);
        noSign(k, 0, -1);
        noSign(k, LOW, HIGH);
        noSign(new FarKeys(), 0, 0);
    }

    private static void guard() {
        FarKeys k = scene();
        int[] want = {20, 3, 3, 10, 7, NONE, 5, 0, 1};
        for (int i = 0; i < 9; i++) due("guard(" + i / 3 + ", " + i % 3 + ")", k.guard(i / 3, i % 3), want[i]);
        due("guard(3, 0)", k.guard(3, 0), NONE);
        due("guard(-1, 0)", k.guard(-1, 0), NONE);
        due("guard(0, 3)", k.guard(0, 3), NONE);
        due("guard(0, -1)", k.guard(0, -1), NONE);
        due("guard(high, low)", k.guard(HIGH, LOW), NONE);
    }

    private static void hears() {
        FarKeys k = landOf(LAND);
        int[] want = {1, 3, 2, NONE, NONE, 0};
        for (int i = 0; i < 6; i++) due("hears(" + i / 2 + ", " + i % 2 + ")", k.hears(i / 2, i % 2), want[i]);
        due("hears(3, 0)", k.hears(3, 0), NONE);
        due("hears(-1, 0)", k.hears(-1, 0), NONE);
        due("hears(0, 2)", k.hears(0, 2), NONE);
        due("hears(0, -1)", k.hears(0, -1), NONE);
        due("hears(1, low)", k.hears(1, LOW), NONE);
    }

    private static void plan() {
        FarKeys k = landOf(LAND, "a", "b");
        due("plan(0, 1)", k.plan(0, 1), true);
        due("guard(0, 2)", k.guard(0, 2), 1);
        due("plan(0, 0)", k.plan(0, 0), true);
        due("guard(0, 2)", k.guard(0, 2), 0);
        due("turnsAt(33, 0)", k.turnsAt(33, 0), 11);
        due("plan(0, 2)", k.plan(0, 2), false);
        due("plan(0, -2)", k.plan(0, -2), false);
        due("plan(3, 0)", k.plan(3, 0), false);
        due("plan(-1, 0)", k.plan(-1, 0), false);
        due("plan(3, -1)", k.plan(3, NONE), false);
        due("guard(0, 2)", k.guard(0, 2), 0);
        due("plan(0, -1)", k.plan(0, NONE), true);
        due("guard(0, 2)", k.guard(0, 2), NONE);
        due("turnsAt(33, 0)", k.turnsAt(33, 0), HIDDEN);
    }

    private static void ways() {
        FarKeys k = scene();
        due("ways(0)", k.ways(0), 9);
        due("ways(1)", k.ways(1), 15);
        k.plan(0, 2);
        due("ways(0) by a+5", k.ways(0), 15);
        k.plan(0, 7);
        due("ways(0) by a+2", k.ways(0), 6);
        k.plan(0, 0);
        due("ways(0) by a", k.ways(0), 0);
        due("ways(2)", k.ways(2), NONE);
        due("ways(-1)", k.ways(-1), NONE);
        // all SIGNS with all ERRORS: both turn at 18 and a's OFF, a third by b at its OFF and 16
        k = landOf("g;g;g;st9e3;st9e3;se3;se3;se3;h;hg1d9;hs1g2d7;bn3w0", "a+9", "a", "b");
        due("ways(1)", k.ways(1), 16807);
        due("ways(0) of none", k.ways(0), 0);
        for (int g = 0; g < 3; g++) k.plan(g, g);
        due("ways(0) of 5 of 49 pairs", k.ways(0), 5 * 343);
        // NEED of more than there are
        k = landOf("g;g;s;h;hg1;bn3w9", "a");
        k.plan(0, 0);
        k.plan(1, 0);
        due("ways(0)", k.ways(0), 0);
        // BREATH: 1 and NEED 2 without a TREASURY
        k = landOf("g;g;s;h;hg1d1", "a", "a+1");
        k.plan(0, 0);
        k.plan(1, 0);
        due("ways(0)", k.ways(0), 1);
        k.plan(1, 1);
        due("ways(0)", k.ways(0), 0);
    }

    private static void odds() {
        FarKeys k = scene();
        due("odds(0)", k.odds(0), 3);
        due("odds(1)", k.odds(1), 5);
        k.plan(0, 7);
        due("odds(0)", k.odds(0), 2);
        due("odds(1)", k.odds(1), 5);
        k.plan(0, 2);
        due("odds(0)", k.odds(0), 1);
        due("odds(1)", k.odds(1), 1);
        k.plan(0, NONE);
        due("odds(0)", k.odds(0), 0);
        due("odds(1)", k.odds(1), 1);
        due("odds(2)", k.odds(2), NONE);
        due("odds(-1)", k.odds(-1), NONE);
    }

    private static void turnsAt() {
        FarKeys k = scene();
        due("turnsAt(33, 0)", k.turnsAt(33, 0), 14);
        due("turnsAt(33, 1)", k.turnsAt(33, 1), HIDDEN);
        due("turnsAt(33, 2)", k.turnsAt(33, 2), 16);
        due("turnsAt(25, 0)", k.turnsAt(25, 0), 13);
        due("turnsAt(25, 2)", k.turnsAt(25, 2), 17);
        due("turnsAt(41, 2)", k.turnsAt(41, 2), 15);
        due("turnsAt(13, 0)", k.turnsAt(13, 0), HIDDEN);
        due("turnsAt(53, 0)", k.turnsAt(53, 0), HIDDEN);
        due("turnsAt(30, 0)", k.turnsAt(30, 0), HIDDEN);
        due("turnsAt(36, 0)", k.turnsAt(36, 0), HIDDEN);
        due("turnsAt(3, 0)", k.turnsAt(3, 0), HIDDEN);
        due("turnsAt(333, 0)", k.turnsAt(333, 0), HIDDEN);
        due("turnsAt(-33, 0)", k.turnsAt(-33, 0), HIDDEN);
        due("turnsAt(33, 3)", k.turnsAt(33, 3), HIDDEN);
        due("turnsAt(33, -1)", k.turnsAt(33, -1), HIDDEN);
        due("turnsAt(low, 0)", k.turnsAt(LOW, 0), HIDDEN);
        due("turnsAt(high, 0)", k.turnsAt(HIGH, 0), HIDDEN);
        // below 0, and a first digit of 0
        k = landOf("g;g;se3;st1;h;hs1", "a", "b");
        k.plan(0, 0);
        due("turnsAt(3, 0)", k.turnsAt(3, 0), -3);
        due("turnsAt(63, 0)", k.turnsAt(63, 0), 3);
        due("turnsAt(73, 0)", k.turnsAt(73, 0), HIDDEN);
        due("turnsAt(103, 0)", k.turnsAt(103, 0), HIDDEN);
    }

    private static int turn(String plan) {
        FarKeys k = landOf(LAND, plan);
        k.plan(0, 0);
        return k.turnsAt(33, 0);
    }

    /** By OFFS of 0 GUARD 0 hears a at 11, b at 19, and there is no c. */
    private static void turnsByPlans() {
        due("b+99", turn("b+99"), 118);
        due("a|b", turn("a|b"), 11);
        due("a&b", turn("a&b"), 19);
        due("a+9&b", turn("a+9&b"), 20);
        due("c", turn("c"), HIDDEN);
        due("e|d+3", turn("e|d+3"), HIDDEN);
        due("a|c", turn("a|c"), 11);
        due("a&c", turn("a&c"), HIDDEN);
        due("a&c|b", turn("a&c|b"), 19);
        due("a+20|b&a", turn("a+20|b&a"), 19);
        due("(a|b)&a+3", turn("(a|b)&a+3"), 14);
        due("a|b&c", turn("a|b&c"), 11);
        due("(a|b)&c", turn("(a|b)&c"), HIDDEN);
        due("(c|(a&b))&(a|c)", turn("(c|(a&b))&(a|c)"), 19);
        due("((((((a+1))))))|b", turn("((((((a+1))))))|b"), 12);
        due("(a+9|b+9)&(b|a+30)|b+5", turn("(a+9|b+9)&(b|a+30)|b+5"), 20);
        FarKeys k = landOf(LAND, "a", "b");
        k.plan(2, 0);
        due("GUARD 2 hears no a", k.turnsAt(33, 2), HIDDEN);
        // b goes out by GUARD 1, who does not hear a: it is never there
        k = landOf("g;g;st5;st1o0v1;h;hs1", "b", "a|b");
        k.plan(0, 0);
        due("b", k.turnsAt(33, 0), HIDDEN);
        k.plan(0, 1);
        due("a|b", k.turnsAt(33, 0), 5);
        // not heard stays not heard, though the SIGN is below 0
        k = landOf("g;g;se3;hg1", "a");
        k.plan(0, 0);
        due("a below 0, not heard", k.turnsAt(0, 0), HIDDEN);
    }

    private static void opens() {
        FarKeys k = scene();
        due("opens(33)", k.opens(33), 1);
        due("opens(34)", k.opens(34), 0);
        due("opens(21)", k.opens(21), 1);
        due("opens(45)", k.opens(45), 0);
        due("opens(13)", k.opens(13), NONE);
        due("opens(36)", k.opens(36), NONE);
        due("opens(333)", k.opens(333), NONE);
        due("opens(-33)", k.opens(-33), NONE);
        due("opens(low)", k.opens(LOW), NONE);
        due("opens(high)", k.opens(HIGH), NONE);
        // three within a breath, the fourth far from them
        k = landOf("g;g;g;g;s;h;hg1;hg2;hg3;bn3w4", "a", "a+20", "a+23", "a+24", "a+25");
        k.plan(0, 0);
        k.plan(1, 3);
        k.plan(2, 1);
        k.plan(3, 2);
        due("opens(3) at 0, 24, 20, 23", k.opens(3), 1);
        k.plan(1, 4);
        due("opens(3) at 0, 25, 20, 23", k.opens(3), 0);
        k.plan(1, NONE);
        due("opens(3) at 0, never, 20, 23", k.opens(3), 0);
    }

    private static void when() {
        FarKeys k = scene();
        due("when(0, 0)", k.when(0, 0), 13);
        due("when(0, 1)", k.when(0, 1), 15);
        due("when(0, 2)", k.when(0, 2), 0);
        due("when(1, 0)", k.when(1, 0), HIDDEN);
        due("when(1, 1)", k.when(1, 1), HIDDEN);
        due("when(1, 2)", k.when(1, 2), 15);
        due("when(2, 0)", k.when(2, 0), 13);
        due("when(2, 1)", k.when(2, 1), 19);
        k.plan(0, 6);
        due("when(0, 2) by c", k.when(0, 2), 15);
        due("when(3, 0)", k.when(3, 0), HIDDEN);
        due("when(-1, 2)", k.when(-1, 2), HIDDEN);
        due("when(0, 3)", k.when(0, 3), HIDDEN);
        due("when(0, -1)", k.when(0, -1), HIDDEN);
        k = landOf("g;g;se3;h", "a");
        k.plan(0, 0);
        due("when(0, 0) below 0", k.when(0, 0), -3);
        due("when(0, 1)", k.when(0, 1), 3);
    }

    private static void near() {
        FarKeys k = scene();
        due("near(0)", k.near(0), 0);
        due("near(1)", k.near(1), 4);
        k.plan(0, 0);
        due("near(0) by a", k.near(0), 3);
        due("near(1) by a", k.near(1), 7);
        k.plan(1, 0);
        due("near(0) with 12 + x", k.near(0), 1);
        due("near(1) with 12 + x", k.near(1), 1);
        due("near(2)", k.near(2), NONE);
        due("near(-1)", k.near(-1), NONE);
        k.plan(0, NONE);
        k.plan(1, NONE);
        due("near(0) of one", k.near(0), NONE);
        due("near(1) of one", k.near(1), NONE);
        // of 0, 24, 20, 23 the three nearest
        k = landOf("g;g;g;g;s;h;hg1;hg2;hg3;bn3w0", "a", "a+20", "a+23", "a+24");
        k.plan(0, 0);
        k.plan(1, 3);
        k.plan(2, 1);
        k.plan(3, 2);
        due("near(0)", k.near(0), 4);
    }

    private static void enough() {
        FarKeys k = scene();
        due("enough()", k.enough(), 4);
        k.plan(0, 2);
        due("enough() by a+5", k.enough(), 2);
        k.plan(0, NONE);
        due("enough() of one", k.enough(), NONE);
        k = landOf("g;g;s;h;hg1", "a", "a+99", "b");
        k.plan(0, 0);
        k.plan(1, 0);
        due("enough()", k.enough(), 0);
        k.plan(1, 1);
        due("enough() of 99", k.enough(), 99);
        k = landOf("g;g;s;h;hg1d1", "a", "a+99");
        k.plan(0, 0);
        k.plan(1, 1);
        due("near(1)", k.near(1), 100);
        due("enough() of 100", k.enough(), NONE);
    }

    private static void best() {
        FarKeys k = scene();
        due("best(0, 0)", k.best(0, 0), 5);
        due("best(0, 1)", k.best(0, 1), 15);
        due("best(1, 0)", k.best(1, 0), 0);
        due("best(1, 1)", k.best(1, 1), 15);
        due("best(2, 0)", k.best(2, 0), 10);
        due("best(2, 1)", k.best(2, 1), 9);
        due("guard(0, 2)", k.guard(0, 2), 3);
        k.plan(2, NONE);
        due("best(0, 0) alone", k.best(0, 0), 0);
        due("best(0, 1) alone", k.best(0, 1), 0);
        due("best(3, 0)", k.best(3, 0), NONE);
        due("best(-1, 0)", k.best(-1, 0), NONE);
        due("best(0, 2)", k.best(0, 2), NONE);
        due("best(0, -1)", k.best(0, -1), NONE);
        // the others OPEN it without him
        k = landOf("g;g;g;st5e1;h;hg1", "a");
        k.plan(0, 0);
        k.plan(1, 0);
        due("best(2, 0)", k.best(2, 0), 0);
        due("best(2, 1)", k.best(2, 1), 3);
    }

    private static void pair() {
        FarKeys k = scene();
        due("pair(0, 2, 0)", k.pair(0, 2, 0), 510);
        due("pair(0, 2, 1)", k.pair(0, 2, 1), 15);
        due("pair(2, 0, 0)", k.pair(2, 0, 0), 1005);
        due("pair(2, 0, 1)", k.pair(2, 0, 1), 15);
        // with GUARD 2 at 16 + x + y none of the pair is needed to be alike: a and a are 1 apart
        due("pair(0, 1, 0)", k.pair(0, 1, 0), 0);
        due("pair(0, 1, 1)", k.pair(0, 1, 1), 15);
        due("pair(0, 0, 0)", k.pair(0, 0, 0), NONE);
        due("pair(0, 3, 0)", k.pair(0, 3, 0), NONE);
        due("pair(-1, 0, 0)", k.pair(-1, 0, 0), NONE);
        due("pair(0, 2, 2)", k.pair(0, 2, 2), NONE);
        due("pair(0, 2, -1)", k.pair(0, 2, -1), NONE);
        // the other GUARD's PLAN counts: it is needed
        k = landOf("g;g;g;st5;h;hg1;hg2;bn3w0", "a+4", "a+7");
        due("pair(0, 1, 1) without it", k.pair(0, 1, 1), 0);
        k.plan(2, 0);
        due("pair(0, 1, 0)", k.pair(0, 1, 0), 404);
        k.plan(2, 1);
        due("pair(0, 1, 0)", k.pair(0, 1, 0), 707);
        k = landOf("g;g;se2;se2;se2;se1;h;hg1;bw0", "a");
        due("ways(1)", k.ways(1), 375);
        due("pair(0, 1, 1) of 375", k.pair(0, 1, 1), 375);
        k = landOf("g;g;se2;se1;se1;se1;se1;h;hg1;bw0", "a");
        due("ways(1)", k.ways(1), 405);
        due("pair(0, 1, 1) of 405", k.pair(0, 1, 1), NONE);
    }

    private static void sure() {
        FarKeys k = scene();
        // 5 with GUARD 0 by a (5 more than GUARD 2's number), 35 with it by b (1 to 5 less)
        due("sure(0, 2)", k.sure(0, 2), 40);
        due("sure(2, 0)", k.sure(2, 0), 40);
        due("sure(0, 0)", k.sure(0, 0), NONE);
        due("sure(0, 3)", k.sure(0, 3), NONE);
        due("sure(low, 0)", k.sure(LOW, 0), NONE);
        // alike numbers only: of one SIGN 10 pairs
        k = landOf("g;g;st3e3;h;hg1;bw0");
        due("sure(0, 1)", k.sure(0, 1), 10);
        // GUARD 2 and either of them: a+4 with any
        k = landOf("g;g;g;st3e3;h;hg1;hg2;bw0", "a+4");
        k.plan(2, 0);
        due("sure(0, 1) with a third", k.sure(0, 1), 28);
        k = landOf("g;g;se2;se1;se1;se1;se1;h;hg1;bw0", "a");
        due("sure(0, 1) of 405", k.sure(0, 1), NONE);
    }

    private static void idle() {
        FarKeys k = scene();
        due("idle()", k.idle(), 0);
        k.plan(1, 7);
        due("idle() with 14 + x", k.idle(), 2);
        k.plan(1, NONE);
        k.plan(0, 0);
        due("idle() of what never OPENS", k.idle(), 3);
        // without a, b still OPENS it: with a it does not
        k = landOf("g;g;s;st9;h;hs1;hs1g1;bw0", "a|b", "b");
        k.plan(0, 0);
        k.plan(1, 1);
        due("ways(0)", k.ways(0), 0);
        due("idle()", k.idle(), 3);
        k.plan(0, 1);
        due("idle() by b alone", k.idle(), 1);
    }

    private static void shift() {
        FarKeys k = scene();
        due("shift(1, 0)", k.shift(1, 0), 9);
        due("shift(1, -2)", k.shift(1, -2), 15);
        due("shift(1, 1)", k.shift(1, 1), 6);
        due("shift(1, 9)", k.shift(1, 9), 0);
        due("shift(1, -9)", k.shift(1, -9), 0);
        due("shift(0, 9)", k.shift(0, 9), 9);
        due("shift(1, 10)", k.shift(1, 10), NONE);
        due("shift(1, -10)", k.shift(1, -10), NONE);
        due("shift(2, 0)", k.shift(2, 0), NONE);
        due("shift(-1, 0)", k.shift(-1, 0), NONE);
        due("shift(0, low)", k.shift(0, LOW), NONE);
        due("sign(1, 0)", k.sign(1, 0), 4);
        due("ways(0)", k.ways(0), 9);
        // PARTS below 0
        k = landOf("g;g;st5;st1;h;hs1g1;bw0", "a", "b");
        k.plan(0, 0);
        k.plan(1, 1);
        due("shift(0, -4)", k.shift(0, -4), 1);
        due("shift(0, -9)", k.shift(0, -9), 0);
        due("shift(1, 4)", k.shift(1, 4), 1);
    }

    private static void waits() {
        FarKeys k = scene();
        due("waits(0, 0)", k.waits(0, 0), 2);
        due("waits(0, 1)", k.waits(0, 1), 15);
        due("waits(1, 0)", k.waits(1, 0), 0);
        due("waits(1, 1)", k.waits(1, 1), 9);
        due("waits(2, 0)", k.waits(2, 0), 0);
        due("waits(2, 1)", k.waits(2, 1), 9);
        due("waits(3, 0)", k.waits(3, 0), NONE);
        due("waits(-1, 0)", k.waits(-1, 0), NONE);
        due("waits(0, 2)", k.waits(0, 2), NONE);
        due("waits(0, -1)", k.waits(0, -1), NONE);
        k = landOf("g;g;s;h;hg1;bw0", "a", "a+9", "a+10");
        k.plan(0, 0);
        k.plan(1, 1);
        due("waits(0, 0) of 9", k.waits(0, 0), 9);
        due("waits(0, 1) of 9", k.waits(0, 1), 1);
        k.plan(1, 2);
        due("waits(0, 0) of 10", k.waits(0, 0), 0);
        due("waits(0, 1) of 10", k.waits(0, 1), 0);
    }

    private static void gain() {
        FarKeys k = scene();
        due("gain(0)", k.gain(0), 198);
        due("gain(1)", k.gain(1), 90);
        due("gain(2)", k.gain(2), 45);
        k.plan(0, NONE);
        due("gain(0) of one", k.gain(0), 0);
        due("gain(2) of one", k.gain(2), 0);
        k.plan(2, NONE);
        k.plan(1, 0);
        due("gain(1) of one", k.gain(1), 105);
        k.plan(1, NONE);
        due("gain(1) of none", k.gain(1), 0);
        due("gain(3)", k.gain(3), NONE);
        due("gain(-1)", k.gain(-1), NONE);
        // of two at once the lowest is the first
        k = landOf("gt1;gt5;gt7;s;h;hg1;hg2;bn3w0", "a", "a+1");
        k.plan(1, 0);
        k.plan(2, 0);
        due("gain(1)", k.gain(1), 5);
        due("gain(2)", k.gain(2), 0);
        k.plan(1, 1);
        due("gain(2)", k.gain(2), 7);
        due("gain(1)", k.gain(1), 0);
        k.plan(1, 0);
        k.plan(0, 0);
        due("gain(0) of three", k.gain(0), 10);
    }

    private static void rest() {
        FarKeys k = landOf("gt20;gt20;s;h;hg1;bw0");
        due("rest(0, 1, -1)", k.rest(0, 1, NONE), 1);
        due("rest(0, 1, 0)", k.rest(0, 1, 0), 0);
        due("rest(0, 1, 1)", k.rest(0, 1, 1), NONE);
        due("rest(0, 1, -2)", k.rest(0, 1, -2), NONE);
        due("rest(0, 1, low)", k.rest(0, 1, LOW), NONE);
        due("rest(0, 1, high)", k.rest(0, 1, HIGH), NONE);
        due("rest(0, 0, -1)", k.rest(0, 0, NONE), NONE);
        due("rest(0, 2, -1)", k.rest(0, 2, NONE), NONE);
        due("rest(-1, 0, -1)", k.rest(-1, 0, NONE), NONE);
        k = landOf("g;g;s;h;hg1;bw0");
        due("rest(0, 1, -1) without TRYING", k.rest(0, 1, NONE), 10);
        due("rest(0, 1, 9)", k.rest(0, 1, 9), 909);
        due("rest(0, 1, 3)", k.rest(0, 1, 3), 303);
        // it never OPENS: who turns at 0 is the first, of both the lower one
        k = landOf("gt5;gt7;s;h;hg1;bn3");
        due("rest(0, 1, -1)", k.rest(0, 1, NONE), 10);
        due("rest(0, 1, 9)", k.rest(0, 1, 9), 9);
        due("rest(1, 0, -1)", k.rest(1, 0, NONE), 10);
        due("rest(1, 0, 9)", k.rest(1, 0, 9), 900);
        // a third one ahead of both: nothing is to be had, all pairs rest
        k = landOf("gt5;gt7;g;st1;s;h;hg1;hs1g2;bn4", "b");
        k.plan(2, 0);
        due("rest(0, 1, -1) behind a third", k.rest(0, 1, NONE), 400);
        // a third one at the same part, higher: only the part 1 counts
        k = landOf("gt5;gt7;g;st1;s;h;hg1;hs1g2;bn4", "b+1");
        k.plan(2, 0);
        due("rest(0, 1, -1) with a third", k.rest(0, 1, NONE), 20);
        due("rest(0, 1, 19)", k.rest(0, 1, 19), 19);
        k = landOf("g;g;se2;se1;se1;se1;se1;h;hg1;bw0", "a");
        due("rest(0, 1, -1) of 405", k.rest(0, 1, NONE), NONE);
    }

    private static void thief() {
        FarKeys k = scene();
        due("thief(0, 0)", k.thief(0, 0), 6);
        due("thief(0, 1)", k.thief(0, 1), 15);
        due("thief(1, 0)", k.thief(1, 0), 2);
        due("thief(1, 1)", k.thief(1, 1), 15);
        due("thief(2, 0)", k.thief(2, 0), 2);
        due("thief(2, 1)", k.thief(2, 1), 15);
        due("thief(3, 0)", k.thief(3, 0), NONE);
        due("thief(-1, 0)", k.thief(-1, 0), NONE);
        due("thief(0, 2)", k.thief(0, 2), NONE);
        due("thief(0, -1)", k.thief(0, -1), NONE);
        // he hears what his GUARD does not, but not what is never there
        k = landOf("g;g;st1e3;st5e3;so1t2v0;hs1g1;bw0", "b");
        k.plan(1, 0);
        due("best(0, 1)", k.best(0, 1), 0);
        due("thief(0, 0)", k.thief(0, 0), 10);
        due("thief(0, 1)", k.thief(0, 1), 49);
        // a SIGN that nobody turns by has its ERROR for him as well
        k = landOf("g;g;st5e1;st5;hs1g1;bw0", "b");
        k.plan(1, 0);
        due("thief(0, 0) of an exact one", k.thief(0, 0), 10);
        due("thief(0, 1) of an exact one", k.thief(0, 1), 3);
        // GUARD 0 still sends by what it hears itself
        k = landOf("g;g;s;so0v0;hd5;hs1g1;bw0", "b");
        k.plan(1, 0);
        due("thief(0, 0)", k.thief(0, 0), 5);
        due("thief(0, 1)", k.thief(0, 1), 1);
    }

    private static void scratch() {
        FarKeys k = scene();
        due("scratch(0, -1, 14)", k.scratch(0, NONE, 14), 1);
        due("scratch(2, 1, 199)", k.scratch(2, 1, 199), 2);
        due("scratch(2, 1, -99)", k.scratch(2, 1, -99), 3);
        due("scratch(2, 1, 200)", k.scratch(2, 1, 200), NONE);
        due("scratch(2, 1, -100)", k.scratch(2, 1, -100), NONE);
        due("scratch(2, 1, low)", k.scratch(2, 1, LOW), NONE);
        due("scratch(3, 1, 0)", k.scratch(3, 1, 0), NONE);
        due("scratch(-1, 1, 0)", k.scratch(-1, 1, 0), NONE);
        due("scratch(0, 2, 0)", k.scratch(0, 2, 0), NONE);
        due("scratch(0, -2, 0)", k.scratch(0, -2, 0), NONE);
        due("scratches", k.count(6), 3);
        for (int i = 4; i <= 10; i++) due("scratch(1, 0, 7)", k.scratch(1, 0, 7), i);
        due("an eleventh", k.scratch(1, 0, 7), NONE);
        due("scratches", k.count(6), 10);
    }

    private static void fits() {
        FarKeys k = scene();
        due("fits(-1) of none", k.fits(NONE), 15);
        due("fits(0) of none", k.fits(0), 4 + 8 + 16);
        due("fits(1) of none", k.fits(1), 2 + 4 + 8 + 16 + 32);
        k.scratch(0, NONE, 14);
        due("fits(-1)", k.fits(NONE), 5);
        due("fits(0)", k.fits(0), 8);
        due("fits(1)", k.fits(1), 62);
        k.scratch(2, 1, 17);
        due("fits(-1)", k.fits(NONE), 1);
        due("fits(1)", k.fits(1), 16);
        k.scratch(1, NONE, 0);
        due("fits(-1)", k.fits(NONE), 0);
        due("fits(0)", k.fits(0), 0);
        due("fits(1)", k.fits(1), 0);
        due("fits(2)", k.fits(2), NONE);
        due("fits(-2)", k.fits(-2), NONE);
        due("fits(high)", k.fits(HIGH), NONE);
        // a SIGN that nobody turns by, heard all the same; below 0; one that nobody hears
        k = landOf("g;g;se3;se2;hg1", "a");
        k.scratch(1, 0, -2);
        due("fits(-1)", k.fits(NONE), 5);
        due("fits(0)", k.fits(0), 2);
        due("fits(1)", k.fits(1), 62);
        k.scratch(0, 0, -2);
        due("fits(-1) of what is not heard", k.fits(NONE), 0);
        due("fits(1) of what is not heard", k.fits(1), 0);
        // it goes by the PLANS there are now
        k = scene();
        k.scratch(0, NONE, 11);
        due("fits(-1) by a+3", k.fits(NONE), 0);
        k.plan(0, 0);
        due("fits(-1) by a", k.fits(NONE), 5);
    }

    private static void lies() {
        FarKeys k = scene();
        due("lies() of none", k.lies(), 0);
        k.scratch(0, NONE, 14);
        due("lies()", k.lies(), 0);
        k.scratch(2, 1, 17);
        k.scratch(1, NONE, 0);
        due("lies()", k.lies(), 4);
        k.scratch(0, NONE, 15);
        // 14 or 15, but 15 leaves y at 0: either could go
        due("lies()", k.lies(), 5);
        k.scratch(1, 0, 13);
        // now x at 1 has two on its side
        due("lies()", k.lies(), 5);
        k.scratch(1, 0, 12);
        // three each: with x at 0 the bits are less
        due("lies()", k.lies(), 4 + 8 + 16);
        k = scene();
        k.scratch(0, NONE, 15);
        k.scratch(0, NONE, 14);
        k.scratch(0, NONE, 14);
        due("lies() of two against one", k.lies(), 1);
        k = scene();
        k.scratch(0, NONE, 13);
        k.scratch(0, NONE, 13);
        k.scratch(0, NONE, 14);
        due("lies() of one against two", k.lies(), 4);
        k = scene();
        k.scratch(0, NONE, 13);
        k.scratch(0, NONE, 15);
        due("lies() of either", k.lies(), 1);
        k = scene();
        k.scratch(0, 1, 100);
        k.scratch(2, 0, 10);
        due("lies() of all", k.lies(), 3);
    }

    private static void sets() {
        FarKeys k = scene();
        due("sets(-1)", k.sets(NONE), 0);
        due("sets(0)", k.sets(0), NONE);
        k.plan(0, 2);
        due("sets(-1) by a+5", k.sets(NONE), 2);
        due("sets(0)", k.sets(0), 5);
        due("sets(1)", k.sets(1), 7);
        due("sets(2)", k.sets(2), NONE);
        due("sets(-2)", k.sets(-2), NONE);
        due("sets(low)", k.sets(LOW), NONE);
        due("sets(high)", k.sets(HIGH), NONE);
        k = landOf("g;g;g;g;s;h;hg1;hg2;hg3;bn3w9", "a");
        for (int g = 0; g < 4; g++) k.plan(g, 0);
        due("sets(-1) of three of four", k.sets(NONE), 5);
        int[] want = {7, 11, 13, 14, 15};
        for (int i = 0; i < 5; i++) due("sets(" + i + ")", k.sets(i), want[i]);
    }

    private static void moment() {
        FarKeys k = scene();
        due("moment(0)", k.moment(0), 13);
        due("moment(1)", k.moment(1), 17);
        due("moment(2)", k.moment(2), 135);
        due("moment(3)", k.moment(3), HIDDEN);
        due("moment(-1)", k.moment(-1), HIDDEN);
        k.plan(0, 0);
        for (int what = 0; what < 3; what++) due("moment(" + what + ") of never", k.moment(what), HIDDEN);
        k.plan(0, 2);
        due("moment(1) by a+5", k.moment(1), 19);
        due("moment(2) by a+5", k.moment(2), 3 * (16 + 16 + 16 + 17 + 18));
        k.plan(0, 3);
        due("moment(1) by a+3 again", k.moment(1), 17);
        due("moment(2) by a+3 again", k.moment(2), 135);
        // of 0, 5, 6, 7 within 1: at 6; of three within 2: at 7
        k = landOf("g;g;g;g;s;h;hg1;hg2;hg3;bw1", "a", "a+5", "a+6", "a+7");
        for (int g = 0; g < 4; g++) k.plan(g, g);
        due("moment(0) of two", k.moment(0), 6);
        k = landOf("g;g;g;g;se3;h;hg1;hg2;hg3;bn3w2", "a", "a+5", "a+6", "a+7");
        for (int g = 0; g < 4; g++) k.plan(3 - g, g);
        due("moment(0) of three", k.moment(0), 4);
        due("moment(1) of three", k.moment(1), 10);
        due("moment(2) of three", k.moment(2), 49);
        k = landOf("g;g;se3;h;hg1", "a");
        k.plan(0, 0);
        k.plan(1, 0);
        due("moment(0) below 0", k.moment(0), -3);
        due("moment(2) of 0", k.moment(2), 0);
    }

    private static void better() {
        FarKeys k = scene();
        due("better(0, 2, 3)", k.better(0, 2, 3), 6);
        due("better(0, 3, 2)", k.better(0, 3, 2), -6);
        due("better(0, 3, 3)", k.better(0, 3, 3), 0);
        due("better(0, 0, 2)", k.better(0, 0, 2), -15);
        due("better(1, 0, 6)", k.better(1, 0, 6), 6);
        due("guard(0, 2)", k.guard(0, 2), 3);
        due("better(3, 0, 0)", k.better(3, 0, 0), HIDDEN);
        due("better(-1, 0, 0)", k.better(-1, 0, 0), HIDDEN);
        due("better(0, 8, 0)", k.better(0, 8, 0), HIDDEN);
        due("better(0, 0, 8)", k.better(0, 0, 8), HIDDEN);
        due("better(0, -1, 0)", k.better(0, NONE, 0), HIDDEN);
        due("better(0, 0, -1)", k.better(0, 0, NONE), HIDDEN);
    }

    private static void exact() {
        FarKeys k = scene();
        due("exact(0)", k.exact(0), 1);
        due("exact(1)", k.exact(1), 1);
        due("exact(2)", k.exact(2), 1);
        k.plan(0, 7);
        due("exact(0) by a+2", k.exact(0), 0);
        due("exact(1) by a+2", k.exact(1), 2);
        due("exact(2) by a+2", k.exact(2), 5);
        k.plan(0, 2);
        due("exact(0) by a+5", k.exact(0), 0);
        k.plan(0, NONE);
        due("exact(0) of never", k.exact(0), 0);
        due("exact(1) of never", k.exact(1), 0);
        due("exact(2) of never", k.exact(2), 1);
        due("exact(3)", k.exact(3), NONE);
        due("exact(-1)", k.exact(-1), NONE);
        due("sign(1, 1)", k.sign(1, 1), 2);
    }

    private static void lossy() {
        FarKeys k = scene();
        due("lossy(0)", k.lossy(0), 600000000);
        due("lossy(10)", k.lossy(10), 486000000);
        due("lossy(33)", k.lossy(33), 269340000);
        due("lossy(100)", k.lossy(100), 0);
        due("lossy(101)", k.lossy(101), NONE);
        due("lossy(-1)", k.lossy(-1), NONE);
        // 2 of 3 ways, b needed by nobody: cut in each set
        k = landOf("g;g;st5e1;s;st4;h;hs2g1;bw1", "a", "c");
        k.plan(0, 0);
        k.plan(1, 1);
        due("ways(0)", k.ways(0), 2);
        due("lossy(0)", k.lossy(0), 666666666);
        // (a, b, c all there, or b lost): 0.125 of 10 to the 9, by 2 of 3, cut, twice
        due("lossy(50)", k.lossy(50), 166666666);
        // four SIGNS that nobody needs: what is lost is cut on their way
        k = landOf("g;g;s;s;s;s;s;hs4;hs4g1", "e");
        k.plan(0, 0);
        k.plan(1, 0);
        due("lossy(1)", k.lossy(1), 990000008);
        due("lossy(99)", k.lossy(99), 10000008);
    }

    private static void route() {
        FarKeys k = scene();
        due("route(0, 0)", k.route(0, 0), 0);
        due("route(0, 1)", k.route(0, 1), 10);
        due("route(1, 0)", k.route(1, 0), 1);
        due("route(1, 1)", k.route(1, 1), 16);
        due("route(2, 0)", k.route(2, 0), NONE);
        due("route(-1, 1)", k.route(-1, 1), NONE);
        due("route(0, 2)", k.route(0, 2), NONE);
        due("route(0, -1)", k.route(0, -1), NONE);
        k = landOf("g;g;st1;st2o0v1;st3o1;st4o2v1;so3;hg1d5;hs1d6;hs2g1d7");
        due("route(3, 0)", k.route(3, 0), 3);
        due("route(3, 1)", k.route(3, 1), 1 + 5 + 2 + 6 + 3 + 7 + 4);
        due("route(4, 0)", k.route(4, 0), 4);
        due("route(4, 1)", k.route(4, 1), HIDDEN);
    }

    private static void deaf() {
        FarKeys k = scene();
        due("deaf()", k.deaf(), 7);
        k.plan(1, 7);
        // 14 + x and 14 + x: GUARD 2 and b are not needed
        due("deaf() with 14 + x", k.deaf(), 3);
        k.plan(0, NONE);
        due("deaf() of y at -2 and less", k.deaf(), 6);
        k.plan(1, NONE);
        due("deaf() of never", k.deaf(), 0);
    }

    private static void helper() {
        FarKeys k = scene();
        due("helper(0)", k.helper(0), 11);
        due("helper(1)", k.helper(1), 9);
        k.plan(1, 1);
        due("helper(0) with b for GUARD 1", k.helper(0), 11);
        due("helper(1) with b for GUARD 1", k.helper(1), 15);
        k.plan(1, NONE);
        k.plan(2, 2);
        // GUARD 2 by a+5, heard at 10 + x: 15 + x, 1 from 14 + x
        due("helper(0) with a+5 for GUARD 2", k.helper(0), 20);
        due("helper(1) with a+5 for GUARD 2", k.helper(1), 15);
        due("hears(2, 0)", k.hears(2, 0), NONE);
        due("helper(2)", k.helper(2), NONE);
        due("helper(-1)", k.helper(-1), NONE);
        // b would go out
        k = landOf("g;g;g;st3;so0v1;h;hs1;hs1g2;bw0", "b");
        k.plan(0, 0);
        k.plan(2, 0);
        due("helper(0) who sends", k.helper(0), 10);
        due("helper(1) who sends", k.helper(1), 1);
        k = landOf("g;g;s;h;hg1");
        due("helper(0) of all", k.helper(0), NONE);
        due("helper(1) of all", k.helper(1), NONE);
    }

    /** The x and y of a NIGHT in LAND with GUARD 0 by a and GUARD 2 by b. */
    private static void offsOfNight(FarKeys k, int night, int x, int y) {
        due("x of night " + night, k.turned(night, 0) - 11, x);
        due("y of night " + night, k.turned(night, 2) - 16 - x, y);
    }

    private static FarKeys dark() {
        FarKeys k = scene();
        k.plan(0, 0);
        return k;
    }

    private static void seed() {
        FarKeys k = dark();
        due("seed(1)", k.seed(1), true);
        k.night();
        offsOfNight(k, 0, 1, 1);
        k.night();
        offsOfNight(k, 1, -1, -2);
        due("seed(-1)", k.seed(-1), true);
        k.night();
        offsOfNight(k, 2, 0, 1);
        due("seed(highest)", k.seed(Long.MAX_VALUE), true);
        k.night();
        offsOfNight(k, 3, -1, 2);
        due("seed(lowest)", k.seed(Long.MIN_VALUE), true);
        k.night();
        offsOfNight(k, 4, -1, 1);
        due("seed(0)", k.seed(0), true);
        k.night();
        offsOfNight(k, 5, 1, 2);
        // told ahead of any LAND
        k = new FarKeys();
        k.seed(7);
        tell(k, 0, LAND);
        tell(k, 1, "a");
        tell(k, 1, "b");
        k.plan(0, 0);
        k.plan(2, 1);
        k.night();
        offsOfNight(k, 0, 1, -1);
    }

    private static void night() {
        FarKeys k = scene();
        int[] open = {0, 1, 1, 1, 0, 1};
        for (int i = 0; i < 6; i++) due("night()", k.night(), open[i]);
        due("nights", k.count(7), 6);
        due("opened nights", k.count(8), 4);
        for (int i = 6; i < 40; i++) due("night() is put by", k.night() >= 0, true);
        due("a 41st", k.night(), NONE);
        due("nights", k.count(7), 40);
        // what was refused drew nothing
        due("undo()", k.undo(), 39);
        int again = k.night();
        due("night() again", again, k.opened(39));
        // a SIGN without ERROR draws, too: the second draw is its own
        k = landOf("g;g;s;st5e2;hs1", "b");
        k.plan(0, 0);
        k.night();
        due("turned(0, 0)", k.turned(0, 0), 7);
    }

    private static void turned() {
        FarKeys k = dark();
        int[] x = {1, 0, 1, 1, -1, 0};
        int[] y = {2, -1, -1, -2, 2, 0};
        for (int i = 0; i < 6; i++) k.night();
        for (int i = 0; i < 6; i++) offsOfNight(k, i, x[i], y[i]);
        due("turned(0, 1)", k.turned(0, 1), HIDDEN);
        k.plan(0, NONE);
        due("turned(0, 0) without a PLAN since", k.turned(0, 0), 12);
        due("turned(6, 0)", k.turned(6, 0), HIDDEN);
        due("turned(-1, 0)", k.turned(-1, 0), HIDDEN);
        due("turned(0, 3)", k.turned(0, 3), HIDDEN);
        due("turned(0, -1)", k.turned(0, -1), HIDDEN);
        due("turned(high, low)", k.turned(HIGH, LOW), HIDDEN);
    }

    private static void opened() {
        FarKeys k = scene();
        int[] open = {0, 1, 1, 1, 0, 1};
        for (int i = 0; i < 6; i++) k.night();
        k.plan(0, NONE);
        for (int i = 0; i < 6; i++) due("opened(" + i + ")", k.opened(i), open[i]);
        due("opened(6)", k.opened(6), NONE);
        due("opened(-1)", k.opened(-1), NONE);
        due("opened(low)", k.opened(LOW), NONE);
    }

    private static void undo() {
        FarKeys k = dark();
        k.night();
        k.night();
        due("undo()", k.undo(), 1);
        due("turned(1, 0)", k.turned(1, 0), HIDDEN);
        k.night();
        offsOfNight(k, 1, 0, -1);
        due("undo()", k.undo(), 1);
        due("undo()", k.undo(), 0);
        due("undo()", k.undo(), NONE);
        due("nights", k.count(7), 0);
        k.night();
        offsOfNight(k, 0, 1, 2);
        // the draws are as they were ahead of that NIGHT, whatever seed was told since
        k.seed(1);
        due("undo()", k.undo(), 0);
        k.night();
        offsOfNight(k, 0, 1, 2);
        due("undo() of none is refused", k.undo() == 0 && k.undo() == NONE, true);
    }

    private static void image() {
        FarKeys k = dark();
        due("image()", k.image(), 0);
        k.night();
        k.night();
        due("image()", k.image(), 2);
        due("nights", k.count(7), 2);
        k.undo();
        k.undo();
        due("back() to the second", k.back(), 2);
        due("image() without a LAND", new FarKeys().image(), NONE);
    }

    private static void back() {
        FarKeys k = dark();
        due("back() of none", k.back(), NONE);
        k.night();
        k.night();
        k.scratch(0, NONE, 12);
        k.image();
        k.plan(0, 3);
        k.plan(1, 1);
        k.scratch(1, 0, 99);
        k.undo();
        k.undo();
        k.seed(1);
        k.night();
        k.night();
        k.night();
        due("ways(0)", k.ways(0), 9);
        due("back()", k.back(), 2);
        due("ways(0)", k.ways(0), 0);
        due("pair(0, 2, 0)", k.pair(0, 2, 0), 510);
        due("guard(0, 2)", k.guard(0, 2), 0);
        due("guard(1, 2)", k.guard(1, 2), NONE);
        due("scratches", k.count(6), 1);
        due("fits(0)", k.fits(0), 16);
        due("nights", k.count(7), 2);
        offsOfNight(k, 0, 1, 2);
        offsOfNight(k, 1, 0, -1);
        k.night();
        offsOfNight(k, 2, 1, -1);
        due("undo()", k.undo(), 2);
        due("undo()", k.undo(), 1);
        k.night();
        offsOfNight(k, 1, 0, -1);
        k.undo();
        k.undo();
        due("back() once more", k.back(), 2);
        allNightsComeBack();
        // an IMAGE keeps what was, not what is told later on
        k.scratch(0, NONE, 12);
        due("back() and back()", k.back(), 2);
        due("scratches", k.count(6), 1);
        tell(k, 0, LAND);
        due("back() in another LAND", k.back(), NONE);
    }

    private static void allNightsComeBack() {
        FarKeys k = scene();
        for (int i = 0; i < 40; i++) k.night();
        int[] turn = new int[40];
        int[] open = new int[40];
        for (int i = 0; i < 40; i++) {
            turn[i] = k.turned(i, 2);
            open[i] = k.opened(i);
        }
        int opened = k.count(8);
        due("image() of 40", k.image(), 40);
        for (int i = 39; i >= 0; i--) due("undo()", k.undo(), i);
        k.plan(0, 2);
        k.plan(2, 0);
        k.plan(1, 2);
        for (int i = 0; i < 40; i++) due("night() without GUARD 2", k.night(), 1);
        due("opened nights without it", k.count(8), 40);
        due("back() to 40", k.back(), 40);
        for (int i = 0; i < 40; i++) {
            due("turned(" + i + ", 2) again", k.turned(i, 2), turn[i]);
            due("opened(" + i + ") again", k.opened(i), open[i]);
        }
        due("opened nights again", k.count(8), opened);
        due("night() of a 41st", k.night(), NONE);
    }

    private static void count() {
        FarKeys k = scene();
        k.plan(0, 2);
        k.night();
        due("count(8) of the first", k.count(8), 1);
        k = scene();
        k.night();
        k.night();
        k.scratch(0, NONE, 1);
        feedText(k, "a|b");
        int[] want = {3, 2, 8, 3, 2, 2, 1, 2, 1};
        for (int what = 0; what <= 8; what++) due("count(" + what + ")", k.count(what), want[what]);
        due("count(9)", k.count(9), HIDDEN);
        due("count(-1)", k.count(-1), HIDDEN);
        due("count(low)", k.count(LOW), HIDDEN);
        due("count(high)", k.count(HIGH), HIDDEN);
        k = landOf("g;g;s;bn4w0");
        due("count(4)", k.count(4), 4);
        due("count(5)", k.count(5), 0);
        k = landOf("g;g;s");
        due("count(4)", k.count(4), 2);
        due("count(5)", k.count(5), 1);
    }
}
