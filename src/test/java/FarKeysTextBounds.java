import java.util.ArrayList;
import java.util.List;

/**
 * The boundaries of the TAPE, of LANDS and of PLANS as texts (the document's ==== 1 and its promises
 * 2 to 9): each sentence that names one by itself, with the case just inside, on it and just outside.
 */
public final class FarKeysTextBounds {
    private static final int NONE = -1;
    private static final int LOW = Integer.MIN_VALUE;
    private static final int HIGH = Integer.MAX_VALUE;

    /** Clauses that hold all that an ITEM may name; their own letter ends the text, to be gone on with. */
    private static final String[] CLAUSE = {"s;g;g", "g;g;g;g;s;s", "g;g;g;g;s;s;s;s;s;h", "g;g;s;b"};
    private static final String[] LETTERS = {"pt", "teov", "sgd", "nw"};
    private static final int[][] LEAST = {{0, 0}, {0, 0, 0, 0}, {0, 0, 0}, {2, 0}};
    private static final int[][] MOST = {{99, 99}, {59, 3, 0, 3}, {4, 3, 9}, {4, 9}};
    private static final int[][] WITHOUT = {{10, 0}, {0, 0, NONE, 0}, {0, 0, 0}, {2, 1}};

    private static String sentence = "";
    private static int checks = 0;
    private static int wrong = 0;

    private static void due(String call, long got, long want) {
        checks++;
        if (got != want) {
            wrong++;
            System.out.println("\"" + sentence + "\": " + call + " answered " + got + ", due is " + want);
        }
    }

    private static void due(String call, boolean got, boolean want) {
        due(call, got ? 1 : 0, want ? 1 : 0);
    }

    /** Twenty bytes a call, so that a text of 160 takes eight. */
    private static void feedText(FarKeys k, String text) {
        for (int from = 0; from < text.length(); from += 20) {
            int[] five = new int[5];
            for (int i = 0; i < 20; i++) {
                int b = from + i < text.length() ? text.charAt(from + i) : 0;
                five[i / 4] = five[i / 4] << 8 | b;
            }
            k.feed(five[0], five[1], five[2], five[3], five[4]);
        }
    }

    private static FarKeys told(int sort, String text, int want) {
        FarKeys k = new FarKeys();
        feedText(k, text);
        due("bytes of '" + text + "'", k.count(3), text.length());
        due("text(" + sort + ") of '" + text + "'", k.text(sort), want);
        return k;
    }

    /** The FAULT, which also tells whether the text is taken; what is refused stays on the TAPE. */
    private static void fault(int sort, String text, int want) {
        FarKeys k = new FarKeys();
        feedText(k, text);
        due("bytes of '" + text + "'", k.count(3), text.length());
        due("fault(" + sort + ") of '" + text + "'", k.fault(sort), want);
        due("text(" + sort + ") of '" + text + "' is taken", k.text(sort) != NONE, want == NONE);
        due("bytes behind '" + text + "'", k.count(3), want == NONE ? 0 : text.length());
        due("LAND behind '" + text + "'", k.count(0) > 0, sort == 0 && want == NONE);
        due("PLANS behind '" + text + "'", k.count(2), sort == 1 && want == NONE ? 1 : 0);
    }

    public static void main(String[] args) {
        feedOfTwentyBytes();
        feedToOneHundredAndSixty();
        endOfTheTape();
        guardsFromTwoToFour();
        signsFromOneToFive();
        hearingsFromNoneToTwelve();
        oneTreasuryAtMost();
        oneTooMany();
        clausesInAnyOrder();
        clausesBeginWithFourLetters();
        itemsOfEachClause();
        lettersOnceAtMost();
        numbersOfOneOrTwoDigits();
        numbersWithinBounds();
        whatIsWithoutAnItem();
        signsBehindOthers();
        whatIsNotTold();
        twoHearingsOfOne();
        landsThatEndTooEarly();
        onlyTheFirstFault();
        textsBehindOthers();
        blanksInLands();
        plansByBytes();
        numbersInPlans();
        sixWithinOneAnother();
        plansThatEndTooEarly();
        blanksInPlans();
        sortsOfTexts();
        eightPlansAtMost();
        anotherLand();
        guardsAndPlans();
        System.out.println(wrong == 0 ? "all " + checks + " checks hold" : wrong + " of " + checks + " checks do not hold");
        if (wrong != 0) System.exit(1);
    }

    private static String times(String text, int n) {
        return text.repeat(n);
    }

    // ---- the TAPE

    private static void feedOfTwentyBytes() {
        sentence = "of each number the highest first; bytes of 0 are left out";
        FarKeys k = new FarKeys();
        // a PLAN in the order of the bytes: any other order has a FAULT
        due("feed of (a+12&b+34|c+56)", k.feed(0x28612B31, 0x3226622B, 0x33347C63, 0x2B353629, 0x20202020), 20);
        due("fault(1)", k.fault(1), NONE);
        String text = "(a+12&b+34|c+56)&d+1";
        for (int gap = 0; gap < 20; gap++) {
            for (int more = 0; more < 2; more++) {
                int[] five = new int[5];
                for (int i = 0, at = 0; i < 20; i++) {
                    int b = i == gap || more == 1 && i == 19 - gap ? 0 : text.charAt(at++);
                    five[i / 4] |= b << 24 - 8 * (i % 4);
                }
                int length = more == 0 ? 19 : 18;
                k = new FarKeys();
                due("feed with a gap at " + gap, k.feed(five[0], five[1], five[2], five[3], five[4]), length);
                // of 19 bytes "+" is the last, of 18 "d"
                due("fault(1) with a gap at " + gap, k.fault(1), more == 0 ? 19 : NONE);
            }
        }
        for (int b = 1; b < 256; b++) {
            k = new FarKeys();
            due("feed of the byte " + b, k.feed(0, 0, b << 24, 0, 0), 1);
            due("feed of the byte " + b, k.feed(b, b << 8, b << 16, 0, b << 24), 5);
        }
        k = new FarKeys();
        due("feed of nothing", k.feed(0, 0, 0, 0, 0), 0);
    }

    private static void feedToOneHundredAndSixty() {
        sentence = "how many it has. NONE: more than 160";
        for (int more = 0; more <= 20; more++) {
            for (int had = 138; had <= 160; had++) {
                FarKeys k = new FarKeys();
                feedText(k, times(" ", had - 1) + "a");
                due("bytes", k.count(3), had);
                int[] five = new int[5];
                // from the last byte backwards, so that those in front are the zeros
                for (int i = 0; i < more; i++) five[(19 - i) / 4] |= 32 << 8 * (i % 4);
                boolean fine = had + more <= 160;
                String call = "feed of " + more + " to " + had;
                due(call, k.feed(five[0], five[1], five[2], five[3], five[4]), fine ? had + more : NONE);
                due("bytes behind " + call, k.count(3), fine ? had + more : had);
                due("fault(1) behind " + call, k.fault(1), NONE);
            }
        }
        FarKeys k = told(1, times(" ", 159) + "a", 0);
        due("bytes behind 160", k.count(3), 0);
        told(0, times(" ", 155) + "g;g;s", 2);
        told(0, times(" ", 156) + "g;g;", NONE);
        // all of them: 160 bytes of which each counts
        String land = "gp11t12;gp13t14;gp15t16;gp17t18;st51e1v3;st52e2o0v1;st53e3o1v2;st54e1o2v3;st55e2o3v0;h;hg1d1;hs1g2d2"
                + ";hs2g3d3;hs3g0d4;hs4g1d5;hs4g2d6;hs4g3d7;bn4w9";
        fault(0, land + times(" ", 160 - land.length()), NONE);
        fault(0, times(" ", 160 - land.length()) + land, NONE);
        fault(0, land + times(" ", 159 - land.length()) + "!", 159);
    }

    private static void endOfTheTape() {
        sentence = "The TAPE has its first n bytes alone. False: n";
        for (int had : new int[] {0, 1, 5, 20, 159, 160}) {
            for (int n : new int[] {LOW, -2, -1, 0, 1, had - 1, had, had + 1, 160, 161, HIGH}) {
                FarKeys k = new FarKeys();
                feedText(k, times("a", had));
                boolean fine = n >= 0 && n <= had;
                due("end(" + n + ") of " + had, k.end(n), fine);
                due("bytes behind end(" + n + ") of " + had, k.count(3), fine ? n : had);
                due("end(" + (had + 1) + ") behind it", k.end(had + 1), false);
            }
        }
        FarKeys k = new FarKeys();
        feedText(k, "a+12");
        due("end(3)", k.end(3), true);
        due("fault(1) of a+1", k.fault(1), NONE);
        due("end(2)", k.end(2), true);
        due("fault(1) of a+", k.fault(1), 2);
        feedText(k, "3");
        due("fault(1) of a+3", k.fault(1), NONE);
        due("text(1)", k.text(1), 0);
        due("end(0) of nothing", k.end(0), true);
        due("end(1) of nothing", k.end(1), false);
        feedText(k, times(" ", 160));
        due("end(159)", k.end(159), true);
        due("feed of one", k.feed(0, 0, 0, 0, 'a'), 160);
        due("fault(1)", k.fault(1), NONE);
    }

    // ---- the CLAUSES of a LAND

    private static void guardsFromTwoToFour() {
        sentence = "g (a GUARD; 2 .. 4)";
        for (int n = 0; n <= 7; n++) {
            int fault = n < 2 ? 1 + 2 * n : n > 4 ? 10 : NONE;
            fault(0, "s" + times(";g", n), fault);
            fault(0, times("g;", n) + "s", n < 2 ? 2 * n + 1 : n > 4 ? 8 : NONE);
            FarKeys k = told(0, "s" + times(";g", n), fault == NONE ? n : NONE);
            due("GUARDS of " + n, k.count(0), fault == NONE ? n : 0);
        }
    }

    private static void signsFromOneToFive() {
        sentence = "s (a SIGN; 1 .. 5)";
        for (int n = 0; n <= 8; n++) {
            int fault = n < 1 ? 3 : n > 5 ? 14 : NONE;
            fault(0, "g;g" + times(";s", n), fault);
            FarKeys k = told(0, "g;g" + times(";s", n), fault == NONE ? 2 : NONE);
            due("SIGNS of " + n, k.count(1), fault == NONE ? n : 0);
        }
    }

    private static void hearingsFromNoneToTwelve() {
        sentence = "h (somebody HEARS one; none to 12)";
        String land = "g;g;g;g;s;s;s;s;s";
        for (int n = 0; n <= 14; n++) {
            StringBuilder text = new StringBuilder(land);
            for (int i = 0; i < n; i++) text.append(";hs").append(i % 5).append("g").append(i / 5);
            fault(0, text.toString(), n > 12 ? land.length() + 6 * 12 + 1 : NONE);
            if (n > 12) continue;
            FarKeys k = told(0, text.toString(), 4);
            for (int i = 0; i < 20; i++) due("hears of " + n, k.hears(i / 5, i % 5), i < n ? 0 : NONE);
        }
        // the thirteenth is wrong at it, whatever else is wrong with it
        fault(0, times("h;", 12) + "h", 24);
        fault(0, times("h;", 11) + "h", 23);
    }

    private static void oneTreasuryAtMost() {
        sentence = "b (the TREASURY; one at most)";
        fault(0, "g;g;s", NONE);
        fault(0, "g;g;s;b", NONE);
        fault(0, "g;g;s;b;b", 8);
        fault(0, "b;b;g;g;s", 2);
        fault(0, "bn3w4;g;g;s;bn3w4", 12);
        FarKeys k = told(0, "bn3w4;g;g;s", 2);
        due("NEED", k.count(4), 3);
        due("BREATH", k.count(5), 4);
    }

    private static void oneTooMany() {
        sentence = "a fifth g, a sixth s, a thirteenth h, a second b, a seventh ( at it";
        // whatever stands behind it, and whatever else is not yet told
        String[] rest = {"", " ", ";", ";x", "p100", "t1t1", "!"};
        for (String more : rest) {
            fault(0, "g;g;g;g;g" + more, 8);
            fault(0, "gp1;gp2;gp3;gp4; g" + more, 17);
            fault(0, "s;s;s;s;s;s" + more, 10);
            fault(0, "g;g;s;s;s;s;s;so9" + more, 14);
            fault(0, "h" + times(";h", 12) + more, 24);
            fault(0, "b;b" + more, 2);
            fault(0, "bn9;b" + more, 2);
            fault(1, "(((((((" + more, 6);
            fault(1, "((((((a)&b)|c&(((" + more, 16);
        }
        // the last that may be, with what is wrong behind it
        fault(0, "g;g;g;g!", 7);
        fault(0, "s;s;s;s;s!", 9);
        fault(0, "h" + times(";h", 11) + "!", 23);
        fault(0, "b!", 1);
        fault(1, "((((((!", 6);
    }

    private static void clausesInAnyOrder() {
        sentence = "in any order";
        String[] clause = {"gp1t2", "gp3t4", "st5e1", "hg1d6", "bn3w7"};
        for (int order = 0; order < 120; order++) {
            List<String> left = new ArrayList<>(List.of(clause));
            List<String> text = new ArrayList<>();
            for (int n = 5, rest = order; n > 0; rest /= n, n--) text.add(left.remove(rest % n));
            FarKeys k = told(0, String.join(";", text), 2);
            int first = text.indexOf("gp1t2") < text.indexOf("gp3t4") ? 0 : 1;
            due("PRIZE", k.guard(first, 0), 1);
            due("TRYING", k.guard(1 - first, 1), 4);
            due("PARTS", k.sign(0, 0), 5);
            due("LATER", k.hears(1, 0), 6);
            due("NEED", k.count(4), 3);
            due("BREATH", k.count(5), 7);
        }
    }

    private static void clausesBeginWithFourLetters() {
        sentence = "A LAND is a TEXT: CLAUSES with ; between: g";
        for (int b = 1; b < 256; b++) {
            char c = (char) b;
            boolean begins = "gshb".indexOf(c) >= 0;
            fault(0, "" + c, begins || c == ' ' ? 1 : 0);
            // a third GUARD, a second SIGN, who hears, the TREASURY
            fault(0, "g;g;s;" + c, begins ? NONE : c == ' ' ? 7 : 6);
            fault(0, "g;g" + c + "s", c == ';' ? NONE : c == ' ' || "pt".indexOf(c) >= 0 ? 4 : 3);
        }
    }

    private static void itemsOfEachClause() {
        sentence = "then ITEMS, none or more: a letter";
        for (int kind = 0; kind < 4; kind++) {
            String ahead = CLAUSE[kind];
            fault(0, ahead, NONE);
            for (int b = 1; b < 256; b++) {
                int item = LETTERS[kind].indexOf((char) b);
                boolean goesOn = b == ' ' || b == ';';
                int number = item < 0 ? 0 : LEAST[kind][item];
                fault(0, ahead + (char) b, item >= 0 || b == ';' ? ahead.length() + 1 : b == ' ' ? NONE : ahead.length());
                if (!goesOn) fault(0, ahead + (char) b + number, item >= 0 ? NONE : ahead.length());
            }
        }
    }

    private static void lettersOnceAtMost() {
        for (int kind = 0; kind < 4; kind++) {
            sentence = "a letter, each once at most in a CLAUSE";
            for (int one = 0; one < LETTERS[kind].length(); one++) {
                for (int other = 0; other < LETTERS[kind].length(); other++) {
                    String text = CLAUSE[kind] + item(kind, one) + (one == other ? "" : item(kind, other));
                    fault(0, text, NONE);
                    fault(0, text + item(kind, one), text.length());
                    fault(0, text + LETTERS[kind].charAt(other), text.length());
                }
            }
            sentence = "a letter that was there";
            StringBuilder all = new StringBuilder(CLAUSE[kind]);
            for (int i = LETTERS[kind].length() - 1; i >= 0; i--) all.append(item(kind, i));
            fault(0, all.toString(), NONE);
            for (int i = 0; i < LETTERS[kind].length(); i++) {
                fault(0, all + item(kind, i), all.length());
                fault(0, all + " " + LETTERS[kind].charAt(i) + "99999", all.length() + 1);
            }
        }
        // of another CLAUSE it is there anew
        fault(0, "gp1;gp1;st1;st1;hd1;hg1d1", NONE);
    }

    private static String item(int kind, int item) {
        return LETTERS[kind].charAt(item) + "" + LEAST[kind][item];
    }

    private static void numbersOfOneOrTwoDigits() {
        for (int kind = 0; kind < 4; kind++) {
            for (int i = 0; i < LETTERS[kind].length(); i++) {
                sentence = "and a number (one or two digits)";
                String ahead = CLAUSE[kind] + LETTERS[kind].charAt(i);
                int at = ahead.length();
                fault(0, ahead, at);
                fault(0, ahead + ";g", at);
                fault(0, ahead + " ", at + 1);
                fault(0, ahead + "-1", at);
                fault(0, ahead + "/", at);
                fault(0, ahead + ":", at);
                fault(0, ahead + LEAST[kind][i], NONE);
                fault(0, ahead + "0" + LEAST[kind][i], NONE);
                fault(0, ahead + LEAST[kind][i] + "/", at + 1);
                fault(0, ahead + LEAST[kind][i] + ":", at + 1);
                sentence = "a third digit (whatever stands ahead of it) itself";
                for (int n = 0; n < 100; n++) {
                    String two = "" + n / 10 + n % 10;
                    fault(0, ahead + two + "0", at + 2);
                    if (n % 11 == 0) fault(0, ahead + two + "9999", at + 2);
                }
            }
        }
    }

    private static void numbersWithinBounds() {
        sentence = "a number out of bounds is wrong at its last digit";
        for (int kind = 0; kind < 4; kind++) {
            for (int i = 0; i < LETTERS[kind].length(); i++) {
                String ahead = CLAUSE[kind] + LETTERS[kind].charAt(i);
                for (int n = 0; n < 100; n++) {
                    boolean fine = n >= LEAST[kind][i] && n <= MOST[kind][i];
                    String two = "" + n / 10 + n % 10;
                    fault(0, ahead + two, fine ? NONE : ahead.length() + 1);
                    fault(0, ahead + two + " ", fine ? NONE : ahead.length() + 1);
                    if (n < 10) fault(0, ahead + n, fine ? NONE : ahead.length());
                    if (n < 10) fault(0, ahead + n + "!", fine ? ahead.length() + 1 : ahead.length());
                    if (fine) valueTold(kind, i, ahead + two, n);
                }
            }
        }
    }

    private static void valueTold(int kind, int item, String text, int n) {
        FarKeys k = new FarKeys();
        feedText(k, text);
        k.text(0);
        if (kind == 0) due(text, k.guard(1, item), n);
        if (kind == 1) due(text, k.sign(1, item), n);
        if (kind == 3) due(text, k.count(4 + item), n);
        if (kind == 2) {
            due(text, k.hears(item == 1 ? n : 0, item == 0 ? n : 0), item == 2 ? n : 0);
            due(text + ", others", k.hears(item == 1 && n == 0 ? 1 : 0, item == 0 && n == 0 ? 1 : 0),
                    item < 2 ? NONE : n);
        }
    }

    private static void whatIsWithoutAnItem() {
        sentence = "of g: p PRIZE if it opens (0 .. 99; 10 without), t for TRYING (0 .. 99; 0)";
        FarKeys k = told(0, "g;gp5t6;s;st7e1o0v1;h;hs1g1d8;b", 2);
        for (int i = 0; i < 2; i++) due("guard(0, " + i + ")", k.guard(0, i), WITHOUT[0][i]);
        sentence = "of s: t PARTS (0 .. 59; 0), e ERROR (0 .. 3; 0), o the SIGN it goes out behind";
        for (int i = 0; i < 4; i++) due("sign(0, " + i + ")", k.sign(0, i), WITHOUT[1][i]);
        sentence = "of h: s the SIGN (0 .. 4; 0), g the GUARD (0 .. 3; 0), d how much LATER (0 .. 9; 0)";
        due("hears(0, 0)", k.hears(0, 0), WITHOUT[2][2]);
        due("hears(1, 0)", k.hears(1, 0), NONE);
        due("hears(0, 1)", k.hears(0, 1), NONE);
        sentence = "of b: n NEED (2 .. 4; 2), w BREATH (0 .. 9; 1)";
        for (int i = 0; i < 2; i++) due("count(" + (4 + i) + ")", k.count(4 + i), WITHOUT[3][i]);
        k = told(0, "g;g;s", 2);
        for (int i = 0; i < 2; i++) due("count(" + (4 + i) + ") without b", k.count(4 + i), WITHOUT[3][i]);
        // one ITEM told leaves the other as it is without
        k = told(0, "gp3;gt4;st5;se2;so0;sv3;hs1;hg1;hd7;bn3", 2);
        int[] want = {3, 0, 10, 4, 5, 0, NONE, 0, 0, 2, NONE, 0, 0, 0, 0, 0, 0, 0, NONE, 3, 7, 0, 0, NONE, 3, 1};
        int at = 0;
        for (int g = 0; g < 2; g++) for (int i = 0; i < 2; i++) due("guard(" + g + ", " + i + ")", k.guard(g, i), want[at++]);
        for (int s = 0; s < 4; s++) for (int i = 0; i < 4; i++) due("sign(" + s + ", " + i + ")", k.sign(s, i), want[at++]);
        for (int g = 0; g < 2; g++) for (int s = 0; s < 2; s++) due("hears(" + g + ", " + s + ")", k.hears(g, s), want[at++]);
        due("NEED", k.count(4), want[at++]);
        due("BREATH", k.count(5), want[at]);
        due("BREATH told alone", told(0, "g;g;s;bw9", 2).count(5), 9);
        due("NEED then", told(0, "g;g;s;bw9", 2).count(4), 2);
    }

    private static void signsBehindOthers() {
        sentence = "one told ahead of it; in the first SIGN any number is out of bounds";
        for (int ahead = 0; ahead < 5; ahead++) {
            String text = "g;g" + times(";s", ahead) + ";so";
            for (int n = 0; n < 100; n++) {
                boolean fine = n < ahead;
                if (n < 10) fault(0, text + n, fine ? NONE : text.length());
                fault(0, text + n / 10 + n % 10, fine ? NONE : text.length() + 1);
                // one told behind it is not ahead of it
                if (n < 10 && ahead < 4) fault(0, text + n + ";s", fine ? NONE : text.length());
                if (fine) due("behind", told(0, text + n, 2).sign(ahead, 2), n);
            }
            due("behind none", told(0, "g;g" + times(";s", ahead) + ";s", 2).sign(ahead, 2), NONE);
        }
    }

    private static void whatIsNotTold() {
        sentence = "or with an h, a v (asked with an o alone) of what is not told";
        for (int signs = 1; signs <= 5; signs++) {
            String land = "g;g" + times(";s", signs);
            for (int s = 0; s < 5; s++) {
                int length = land.length() + 4;
                fault(0, land + ";hs" + s, s < signs ? NONE : length);
                fault(0, "hs" + s + ";" + land, s < signs ? NONE : length);
            }
        }
        for (int guards = 2; guards <= 4; guards++) {
            String land = "s" + times(";g", guards);
            for (int g = 0; g < 4; g++) {
                fault(0, land + ";hg" + g, g < guards ? NONE : land.length() + 4);
                fault(0, "hg" + g + ";" + land, g < guards ? NONE : land.length() + 4);
                fault(0, land + ";so0v" + g, g < guards ? NONE : land.length() + 6);
                fault(0, "s;sv" + g + "o0;" + land, g < guards ? NONE : land.length() + 8);
                fault(0, land + ";sv" + g, NONE);
                fault(0, "sv" + g + times(";g", guards), NONE);
                due("who sends", told(0, land + ";sv" + g, guards).sign(1, 3), g);
            }
            fault(0, land + ";so0", NONE);
            fault(0, land + ";h", NONE);
        }
        // at the length with its blanks
        fault(0, "g;g;s;hs1  ", 11);
        fault(0, "g;g;s;so0v2 ", 12);
    }

    private static void twoHearingsOfOne() {
        sentence = "or two h of one SIGN and GUARD";
        fault(0, "g;g;s;s;h;hs0g0", 15);
        fault(0, "g;g;s;s;h;h", 11);
        fault(0, "hd1;hd2;g;g;s;s", 15);
        fault(0, "g;g;s;s;hs1g1;h;hs1;hg1;hd9g1s1", 31);
        fault(0, "g;g;s;s;hs1g1;h;hs1;hg1", NONE);
        // those that are heard once do not mend it
        fault(0, "h;h;hg1;g;g;s;s", 15);
        fault(0, "g;g;s;s;hs1;hg1;hs1;h;hs1g1", 27);
        for (int one = 0; one < 20; one++) {
            for (int other = 0; other < 20; other++) {
                String text = "g;g;g;g;s;s;s;s;s;hs" + one % 5 + "g" + one / 5 + ";hs" + other % 5 + "g" + other / 5;
                fault(0, text, one == other ? text.length() : NONE);
            }
        }
    }

    private static void landsThatEndTooEarly() {
        sentence = "the length, if it ends too early, with fewer than two GUARDS, without a SIGN";
        String text = "gp12t3;gp4;st45e1;so0v1;hs1g1d9;h;bn2w9;g";
        for (int n = 0; n <= text.length(); n++) {
            String part = text.substring(0, n);
            char last = n == 0 ? ';' : part.charAt(n - 1);
            boolean clauseBegins = "gshb".indexOf(last) >= 0 && (n == 1 || part.charAt(n - 2) == ';');
            boolean whole = n >= 12 && (clauseBegins || last >= '0' && last <= '9');
            fault(0, part, whole ? NONE : n);
            fault(0, part + "  ", whole ? NONE : n + 2);
        }
        fault(0, "", 0);
        fault(0, " ", 1);
        fault(0, times(" ", 160), 160);
        fault(0, "h;b", 3);
        fault(0, "g;h;b;s", 7);
        fault(0, "g;g;h;b", 7);
    }

    private static void onlyTheFirstFault() {
        sentence = "FAULT: the first byte at which no such TEXT can go on";
        fault(0, "g;g;g;g;g;g;x", 8);
        fault(0, "g;g;s;s;s;s;s;s;g;g;g", 14);
        fault(0, "x;g;g;g;g;g", 0);
        fault(0, "gp1p2;g;g;g;g", 3);
        fault(0, "ge1;g;g;g;g;g", 1);
        fault(0, "st60e4", 3);
        fault(0, "st59e4", 5);
        fault(0, "st600e4", 4);
        fault(0, "b;b;b", 2);
        fault(0, "h;h;x", 4);
        fault(0, "hs1;g;g;s;!", 10);
        // 0 is no NEED, though 02 is one: the number is out of bounds at its last digit
        fault(0, "g;g;s;bn0", 8);
        fault(0, "g;g;s;bn0 2", 8);
        fault(0, "g;g;s;bn02", NONE);
    }

    /** Each text behind each other one on one object: nothing of the one is left in the other. */
    private static void textsBehindOthers() {
        sentence = "The FAULT of the TAPE as a LAND (0), a PLAN (1)";
        String[] text = {"g;g;s", "g;g;s;h;h", "g;g;g;g;g", "g;g;s;hs1", "g;g;s;b;b", "gp1p1", "g;g;s;s;s;s;s;s", "g;g;s;s;so1v2", "bn4w9;g;g;s;h",
            "st60", "g;g;g;g;st9e3;so0v3;hs1g3d9", "", "a", "(a", "((((((a))))))", "(((((((a", "a&", "a+100", "a)", "(a|b)&c+99"};
        int[] asLand = {NONE, 9, 8, 9, 8, 3, 14, 13, NONE, 3, NONE, 0, 0, 0, 0, 0, 0, 0, 0, 0};
        int[] asPlan = {0, 0, 0, 0, 0, 0, 0, 0, 1, 0, 0, 0, NONE, 2, NONE, 6, 2, 4, 1, NONE};
        for (int one = 0; one < text.length; one++) {
            for (int other = 0; other < text.length; other++) {
                FarKeys k = new FarKeys();
                for (int i : new int[] {one, other, one}) {
                    k.end(0);
                    feedText(k, text[i]);
                    due("fault(0) of '" + text[i] + "' behind another", k.fault(0), asLand[i]);
                    due("fault(1) of '" + text[i] + "' behind another", k.fault(1), asPlan[i]);
                    due("fault(0) of '" + text[i] + "' once more", k.fault(0), asLand[i]);
                    due("text(0) of '" + text[i] + "' is taken", k.text(0) != NONE, asLand[i] == NONE);
                    due("text(1) of '" + text[i] + "' is taken", k.text(1) != NONE, asPlan[i] == NONE);
                }
            }
        }
    }

    private static void blanksInLands() {
        sentence = "Blanks (32) may stand between all signs of both, not within numbers";
        blanksIn(0, "gp12t34;gt5p6;st45e1v1;so0t07v1e03;hs1g1d9;bn2w09");
    }

    private static void blanksInPlans() {
        sentence = "Blanks (32) may stand between all signs of both, not within numbers";
        blanksIn(1, "(a+12&(b|c+3))&d+04|((e))");
    }

    private static void blanksIn(int sort, String text) {
        fault(sort, text, NONE);
        StringBuilder wide = new StringBuilder();
        for (int at = 0; at <= text.length(); at++) {
            boolean within = at > 0 && at < text.length() && isDigit(text.charAt(at - 1)) && isDigit(text.charAt(at));
            String front = text.substring(0, at);
            String rest = text.substring(at);
            fault(sort, front + " " + rest, within ? at + 1 : NONE);
            fault(sort, front + "   " + rest, within ? at + 3 : NONE);
            // no other byte is a blank
            for (int b : new int[] {1, 9, 10, 13, 31, 33, 127, 160, 255}) fault(sort, front + (char) b + rest, at);
            if (!within) wide.append("  ");
            if (at < text.length()) wide.append(text.charAt(at));
        }
        fault(sort, wide.toString(), NONE);
    }

    private static boolean isDigit(char c) {
        return c >= '0' && c <= '9';
    }

    // ---- PLANS

    /** Behind each beginning each byte: those that go on, and those that end it well. */
    private static void plansByBytes() {
        sentence = "UNIT: ( PLAN ), or a SIGN's letter (a .. e), then perhaps + and a number (one or two digits)";
        String unit = "abcde(";
        String[][] cases = {
            // the beginning, bytes that make it a PLAN, bytes with which it only goes on
            {"", "abcde", "("},
            {" ", "abcde", "("},
            {"(", "", unit},
            {"a&", "abcde", "("},
            {"a|", "abcde", "("},
            {"(a|b)&", "abcde", "("},
            {"a", "", "+&|"},
            {"e", "", "+&|"},
            {"(a", ")", "+&|"},
            {"((a)", ")", "&|"},
            {"(a)", "", "&|"},
            {"a+", "0123456789", ""},
            {"(b+", "", "0123456789"},
            {"a+1", "0123456789", "&|"},
            {"a+12", "", "&|"},
            {"(a+12", ")", "&|"},
            {"a&b", "", "+&|"},
            {"((((((", "", "abcde"},
            {"(((((", "", unit},
        };
        for (String[] one : cases) {
            String ahead = one[0];
            FarKeys k = new FarKeys();
            feedText(k, ahead);
            int alone = k.fault(1);
            due("fault(1) of '" + ahead + "'", alone == NONE || alone == ahead.length(), true);
            for (int b = 1; b < 256; b++) {
                char c = (char) b;
                int length = ahead.length();
                int want = one[1].indexOf(c) >= 0 ? NONE : one[2].indexOf(c) >= 0 ? length + 1 : length;
                if (c == ' ') want = alone == NONE ? NONE : length + 1;
                fault(1, ahead + c, want);
            }
        }
    }

    private static void numbersInPlans() {
        sentence = "then perhaps + and a number (one or two digits)";
        for (int n = 0; n < 100; n++) {
            String two = "" + n / 10 + n % 10;
            if (n < 10) plusOf("a+" + n, n);
            plusOf("a+" + two, n);
            fault(1, "a+" + two + "0", 4);
            fault(1, "(a+" + two + "9|b", 5);
        }
        plusOf("a", 0);
    }

    private static void plusOf(String plan, int later) {
        FarKeys k = told(1, plan, 0);
        feedText(k, "g;g;st7;hd2");
        due("text(0)", k.text(0), 2);
        k.plan(0, 0);
        due("turnsAt(3, 0) by " + plan, k.turnsAt(3, 0), 9 + later);
    }

    private static void sixWithinOneAnother() {
        sentence = "At most six of ( within one another";
        for (int n = 0; n <= 9; n++) {
            fault(1, times("(", n) + "a" + times(")", n), n <= 6 ? NONE : 6);
            fault(1, "b&" + times("(", n) + "a" + times(")", n), n <= 6 ? NONE : 8);
            fault(1, times("(", n), n <= 6 ? n : 6);
            fault(1, times("( ", n), n <= 6 ? 2 * n : 12);
            fault(1, times("(", n) + "a" + times(")", n + 1), n <= 6 ? 2 * n + 1 : 6);
            if (n > 0) fault(1, times("(", n) + "a" + times(")", n - 1), n <= 6 ? 2 * n : 6);
        }
        // those beside one another are not within one another
        fault(1, times("(a)|", 39) + "(a)", NONE);
        fault(1, times("((((((a))))))&", 10) + "((((((b))))))", NONE);
        fault(1, "(((((a&(b))|(c)))))", NONE);
        fault(1, "((((((a))))))|(((((((b", 20);
        fault(1, "((((((a)|(b)))))&(((((c)))))", 28);
        fault(1, "((((((a)|((b", 10);
    }

    private static void plansThatEndTooEarly() {
        sentence = "the length, if it ends too early";
        String text = "(a+12&(b|c))&d|e+3";
        for (int n = 0; n <= text.length(); n++) {
            String part = text.substring(0, n);
            int inner = 0;
            for (char c : part.toCharArray()) inner += c == '(' ? 1 : c == ')' ? -1 : 0;
            char last = n == 0 ? '&' : part.charAt(n - 1);
            boolean whole = inner == 0 && "(&|+".indexOf(last) < 0;
            fault(1, part, whole ? NONE : n);
            fault(1, part + " ", whole ? NONE : n + 1);
        }
    }

    private static void sortsOfTexts() {
        sentence = "NONE: none. -2: no such sort";
        for (int sort : new int[] {LOW, -3, -2, -1, 2, 3, HIGH}) {
            FarKeys k = new FarKeys();
            feedText(k, "a");
            due("fault(" + sort + ")", k.fault(sort), -2);
            due("text(" + sort + ")", k.text(sort), NONE);
            due("bytes", k.count(3), 1);
            due("PLANS", k.count(2), 0);
        }
        fault(0, "g;g;s", NONE);
        fault(0, "a", 0);
        fault(1, "a", NONE);
        fault(1, "g;g;s", 0);
        sentence = "how many GUARDS; a PLAN: its number. NONE: a FAULT, no such sort, there are eight";
        told(0, "g;g;s", 2);
        told(0, "g;g;g;s", 3);
        told(0, "g;g;g;g;s", 4);
        told(0, "a", NONE);
        told(1, "a", 0);
        told(1, "g;g;s", NONE);
        told(0, "", NONE);
        told(1, "", NONE);
    }

    private static void eightPlansAtMost() {
        sentence = "PLANS (8 at most) are TEXTS";
        FarKeys k = new FarKeys();
        for (int n = 0; n < 12; n++) {
            k.end(0);
            feedText(k, "a+" + n);
            due("fault(1) of PLAN " + n, k.fault(1), NONE);
            due("text(1) of PLAN " + n, k.text(1), n < 8 ? n : NONE);
            due("PLANS", k.count(2), Math.min(n + 1, 8));
            due("bytes", k.count(3), n < 8 ? 0 : n < 10 ? 3 : 4);
        }
        k.end(0);
        feedText(k, "g;g;st5;h");
        due("text(0) with eight PLANS", k.text(0), 2);
        for (int n = 0; n < 8; n++) {
            due("plan(0, " + n + ")", k.plan(0, n), true);
            due("turnsAt(3, 0) by a+" + n, k.turnsAt(3, 0), 5 + n);
        }
        due("plan(0, 8)", k.plan(0, 8), false);
        due("guard(0, 2)", k.guard(0, 2), 7);
        feedText(k, "a");
        due("text(1) of a ninth in a LAND", k.text(1), NONE);
        due("text(0) of it", k.text(0), NONE);
        due("bytes", k.count(3), 1);
        // PLANS of all 160 bytes, each beside the next
        k = new FarKeys();
        for (int n = 0; n < 8; n++) {
            feedText(k, "(" + times("a|", 76) + "b" + ")&a+" + n + "  ");
            due("bytes of a long one", k.count(3), 160);
            due("text(1) of a long one", k.text(1), n);
        }
        feedText(k, "g;g;st5;st9;h;hs1");
        k.text(0);
        for (int n = 0; n < 8; n++) {
            k.plan(0, n);
            due("turnsAt(33, 0) by a long one", k.turnsAt(33, 0), 5 + n);
        }
    }

    private static void anotherLand() {
        sentence = "all that was of another one is gone but PLANS and draws; no GUARD has one";
        FarKeys k = told(0, "gp1t1;gp2t2;gp3t3;gp4t4;st9e3;st8e2o0v1;s;s;s;h;hg1;hg2;hg3;bn4w9", 4);
        feedText(k, "a");
        k.text(1);
        for (int g = 0; g < 4; g++) k.plan(g, 0);
        k.scratch(0, NONE, 1);
        due("night()", k.night(), 1);
        due("image()", k.image(), 1);
        due("ways(0)", k.ways(0), 35);
        feedText(k, "g;g;s");
        due("text(0)", k.text(0), 2);
        int[] count = {2, 1, 1, 0, 2, 1, 0, 0, 0};
        for (int what = 0; what < 9; what++) due("count(" + what + ")", k.count(what), count[what]);
        due("guard(0, 0)", k.guard(0, 0), 10);
        due("guard(1, 1)", k.guard(1, 1), 0);
        due("guard(2, 0)", k.guard(2, 0), NONE);
        due("guard(0, 2)", k.guard(0, 2), NONE);
        due("guard(1, 2)", k.guard(1, 2), NONE);
        due("sign(0, 0)", k.sign(0, 0), 0);
        due("sign(0, 1)", k.sign(0, 1), 0);
        for (int g = 0; g < 4; g++) due("hears(" + g + ", 0)", k.hears(g, 0), NONE);
        due("ways(0)", k.ways(0), 0);
        due("ways(1)", k.ways(1), 1);
        due("fits(-1)", k.fits(NONE), 1);
        due("lies()", k.lies(), 0);
        due("opened(0)", k.opened(0), NONE);
        due("undo()", k.undo(), NONE);
        due("back()", k.back(), NONE);
        // the PLAN is there still
        due("plan(0, 0)", k.plan(0, 0), true);
        due("guard(0, 2)", k.guard(0, 2), 0);
        // the very same text is another LAND as well
        k.image();
        feedText(k, "g;g;s");
        due("text(0) of the same", k.text(0), 2);
        due("guard(0, 2)", k.guard(0, 2), NONE);
        due("back() behind the same", k.back(), NONE);
    }

    private static void guardsAndPlans() {
        sentence = "A PLAN of a GUARD (NONE: none). False: no such ones";
        for (int guards = 2; guards <= 4; guards++) {
            FarKeys k = told(0, "s" + times(";g", guards), guards);
            due("plan(0, -1) without PLANS", k.plan(0, NONE), true);
            due("plan(0, 0) without PLANS", k.plan(0, 0), false);
            for (int n = 0; n < 2; n++) {
                feedText(k, "a");
                k.text(1);
            }
            for (int g : new int[] {LOW, -1, 0, guards - 1, guards, HIGH}) {
                for (int p : new int[] {LOW, -2, NONE, 0, 1, 2, 7, 8, HIGH}) {
                    boolean isGuard = g >= 0 && g < guards;
                    boolean fine = isGuard && p >= NONE && p < 2;
                    int had = k.guard(g, 2);
                    due("plan(" + g + ", " + p + ")", k.plan(g, p), fine);
                    due("guard(" + g + ", 2)", k.guard(g, 2), fine ? p : had);
                }
            }
        }
    }
}
