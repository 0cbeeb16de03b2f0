import java.util.ArrayList;
import java.util.Arrays;
import java.util.List;
import java.util.NoSuchElementException;
import java.util.Random;
import java.util.TreeSet;

/**
 * Runs of drawn calls, each asked of FarKeys and of a second program that follows the document word
 * by word and walks every way for every answer. The draws are the same each time.
 */
public final class FarKeysAgainstPlain {
    static final int NONE = -1;
    static final int HIDDEN = -1000000;
    static final String[] CALLS = {
        "feed", "end", "fault", "text", "sign", "guard", "hears", "plan", "ways", "odds", "turnsAt", "opens",
        "when", "near", "enough", "best", "pair", "sure", "idle", "shift", "waits", "gain", "rest", "thief",
        "scratch", "fits", "lies", "sets", "moment", "better", "exact", "lossy", "route", "deaf", "helper",
        "seed", "night", "turned", "opened", "undo", "image", "back", "count"};

    static int wrong = 0;
    static final int[] asked = new int[CALLS.length];
    static final int[] plainAnswers = new int[CALLS.length];

    public static void main(String[] args) {
        int runs = args.length > 0 ? Integer.parseInt(args[0]) : 400;
        long from = args.length > 1 ? Long.parseLong(args[1]) : 0;
        for (int run = 0; run < runs && wrong < 20; run++) {
            new Run(from + run).go();
        }
        for (int i = 0; i < CALLS.length && wrong == 0; i++) {
            if (plainAnswers[i] == 0) {
                System.out.println(CALLS[i] + " was never asked with an answer other than refused");
                wrong++;
            }
        }
        System.out.println(wrong == 0 ? "all answers are alike" : wrong + " answers are not alike");
        if (wrong != 0) System.exit(1);
    }

    /** One run on new objects. */
    static final class Run {
        final long number;
        final Random draw;
        final FarKeys keys = new FarKeys();
        final Plain plain = new Plain();
        final StringBuilder told = new StringBuilder();
        final int mostWays;
        String land = "";

        Run(long number) {
            this.number = number;
            draw = new Random(number * 7919 + 17);
            mostWays = number % 40 == 0 ? 20000 : number % 8 == 0 ? 2500 : number % 3 == 0 ? 400 : 130;
        }

        void go() {
            int calls = 110;
            for (int i = 0; i < calls && wrong < 20; i++) {
                if (i == 0 ? draw.nextInt(4) != 0 : draw.nextInt(45) == 0) tellLand();
                else if (plain.plans.size() < 8 && draw.nextInt(plain.plans.size() < 3 ? 3 : 14) == 0) tellPlan();
                else if (plain.guards.size() > 0 && draw.nextInt(7) == 0)
                    ask(7, draw.nextInt(plain.guards.size()), draw.nextInt(plain.plans.size() + 1) - 1, 0, 0, 0);
                else askDrawn();
            }
        }

        int pick(int from, int to) { return from + draw.nextInt(to - from + 1); }

        /** Mostly a number within, now and then one at the edge or far out. */
        int near(int from, int to) {
            int k = draw.nextInt(60);
            if (k == 0) return Integer.MIN_VALUE;
            if (k == 1) return Integer.MAX_VALUE;
            if (k == 2) return from - 1;
            if (k == 3) return to + 1;
            if (k == 4) return -1;
            return to < from ? from : pick(from, to);
        }

        void feedText(String text) {
            ask(1, 0, 0, 0, 0, 0);
            int at = 0;
            while (at < text.length()) {
                int[] five = new int[5];
                for (int i = 0; i < 20; i++) {
                    int b = 0;
                    if (at < text.length() && draw.nextInt(30) != 0) b = text.charAt(at++) & 255;
                    five[i / 4] = five[i / 4] << 8 | b;
                }
                ask(0, five[0], five[1], five[2], five[3], five[4]);
            }
        }

        void tellLand() {
            String text = drawLand();
            if (draw.nextInt(3) == 0) {
                for (int i = 0; i < 3; i++) {
                    feedText(spoil(text, "gshbpteovdnw;0123456789 :"));
                    ask(2, 0, 0, 0, 0, 0);
                    if (draw.nextInt(3) == 0) {
                        ask(3, 0, 0, 0, 0, 0);
                    }
                }
            }
            feedText(text);
            ask(2, 0, 0, 0, 0, 0);
            ask(3, 0, 0, 0, 0, 0);
        }

        void tellPlan() {
            String text = drawPlan();
            if (draw.nextInt(3) == 0) {
                for (int i = 0; i < 3; i++) {
                    feedText(spoil(text, "abcdef+&|()0123456789 "));
                    ask(2, 1, 0, 0, 0, 0);
                }
            }
            feedText(text);
            ask(2, 1, 0, 0, 0, 0);
            ask(3, 1, 0, 0, 0, 0);
        }

        String spoil(String text, String signs) {
            StringBuilder b = new StringBuilder(text);
            int times = pick(1, 2);
            for (int i = 0; i < times; i++) {
                int at = draw.nextInt(b.length() + 1);
                char c = draw.nextInt(40) == 0 ? (char) pick(1, 255) : signs.charAt(draw.nextInt(signs.length()));
                switch (draw.nextInt(4)) {
                    case 0: if (b.length() < 158) b.insert(at, c); break;
                    case 1: if (at < b.length()) b.setCharAt(at, c); break;
                    case 2: if (at < b.length()) b.deleteCharAt(at); break;
                    default: b.setLength(at); break;
                }
            }
            return b.toString();
        }

        String blank() { return draw.nextInt(25) == 0 ? " " : ""; }

        String number(int n) { return n < 10 && draw.nextInt(12) == 0 ? "0" + n : "" + n; }

        String drawLand() {
            for (int tries = 0; tries < 200; tries++) {
                String text = drawLandOnce();
                if (text.length() <= 160) return text;
            }
            return "g;g;s";
        }

        String drawLandOnce() {
            int guards = pick(2, 4);
            int signs = pick(1, 5);
            List<String> clauses = new ArrayList<>();
            for (int g = 0; g < guards; g++) {
                String c = "g";
                if (draw.nextInt(3) == 0) c += blank() + "p" + blank() + number(pick(0, 99));
                if (draw.nextInt(2) == 0) c += blank() + "t" + number(pick(0, 99));
                clauses.add(c);
            }
            int ways = 1;
            List<String> signClauses = new ArrayList<>();
            for (int s = 0; s < signs; s++) {
                String c = "s";
                int error = draw.nextInt(4);
                while (ways * (2 * error + 1) > mostWays) error--;
                ways *= 2 * error + 1;
                boolean behind = s > 0 && draw.nextInt(2) == 0;
                if (draw.nextInt(5) != 0) c += "t" + blank() + number(behind ? pick(0, 6) : draw.nextInt(8) == 0 ? pick(0, 59) : pick(0, 12));
                if (error > 0) c += "e" + number(error);
                if (behind) {
                    c += "o" + draw.nextInt(s);
                    if (draw.nextInt(3) != 0) c += "v" + draw.nextInt(guards);
                } else if (draw.nextInt(9) == 0) c += "v" + draw.nextInt(4);
                signClauses.add(c);
            }
            TreeSet<Integer> pairs = new TreeSet<>();
            int hearings = pick(0, 12);
            for (int i = 0; i < hearings; i++) pairs.add(draw.nextInt(guards) * 10 + draw.nextInt(signs));
            for (int pair : pairs) {
                String c = "h";
                if (pair % 10 != 0 || draw.nextInt(2) == 0) c += "s" + pair % 10;
                if (pair / 10 != 0 || draw.nextInt(2) == 0) c += "g" + pair / 10;
                if (draw.nextInt(2) == 0) c += "d" + draw.nextInt(draw.nextInt(3) == 0 ? 10 : 4);
                clauses.add(c);
            }
            if (draw.nextInt(6) != 0) {
                String c = "b";
                if (draw.nextInt(2) == 0) c += "n" + pick(2, draw.nextInt(6) == 0 ? 4 : Math.min(guards, 3));
                if (draw.nextInt(4) != 0) c += "w" + pick(0, 9);
                clauses.add(c);
            }
            // the order of SIGNS stays, all else may stand between them
            if (draw.nextInt(2) == 0) java.util.Collections.shuffle(clauses, draw);
            for (int s = 0, at = 0; s < signs; s++) {
                at = Math.max(at, draw.nextInt(clauses.size() + 1));
                clauses.add(at++, signClauses.get(s));
            }
            return String.join(blank() + ";" + blank(), clauses);
        }

        String drawPlan() {
            for (int tries = 0; tries < 100; tries++) {
                String text = choices(draw.nextInt(3) == 0 ? 0 : 4);
                if (text.length() <= 160) return text;
            }
            return "a";
        }

        String choices(int depth) {
            StringBuilder b = new StringBuilder();
            int n = draw.nextInt(3) == 0 ? pick(2, 3) : 1;
            for (int i = 0; i < n; i++) {
                if (i > 0) b.append("|");
                int m = draw.nextInt(3) == 0 ? pick(2, 3) : 1;
                for (int j = 0; j < m; j++) {
                    if (j > 0) b.append(blank()).append("&");
                    if (depth < 6 && draw.nextInt(4) == 0) b.append("(").append(choices(depth + 1)).append(")").append(blank());
                    else {
                        b.append((char) ('a' + (draw.nextInt(3) == 0 ? draw.nextInt(5) : draw.nextInt(2))));
                        if (draw.nextInt(2) == 0) b.append(blank()).append("+").append(blank()).append(number(draw.nextInt(9) == 0 ? pick(0, 99) : pick(0, 9)));
                    }
                }
            }
            return b.toString();
        }

        int drawnOffs() {
            int offs = 0;
            for (int s = 0; s < plain.signs.size(); s++) {
                int e = plain.signs.get(s).error;
                offs = offs * 10 + (draw.nextInt(15) == 0 ? draw.nextInt(10) : pick(-e, e) + 3);
            }
            return draw.nextInt(20) == 0 ? near(0, 99999) : offs;
        }

        void askDrawn() {
            int c = draw.nextInt(CALLS.length);
            int g = plain.guards.size() - 1;
            int s = plain.signs.size() - 1;
            int p = plain.plans.size() - 1;
            switch (CALLS[c]) {
                case "feed": ask(c, draw.nextInt(), near(0, 999), draw.nextInt(), draw.nextInt(3), 0x20002061); break;
                case "end": ask(c, near(0, plain.tape.length()), 0, 0, 0, 0); break;
                case "fault": ask(c, near(0, 1), 0, 0, 0, 0); break;
                case "text": if (draw.nextInt(3) == 0) ask(c, near(0, 1), 0, 0, 0, 0); break;
                case "sign": ask(c, near(0, s), near(0, 3), 0, 0, 0); break;
                case "guard": ask(c, near(0, g), near(0, 2), 0, 0, 0); break;
                case "hears": ask(c, near(0, g), near(0, s), 0, 0, 0); break;
                case "plan": ask(c, near(0, g), near(-1, p), 0, 0, 0); break;
                case "ways": case "odds": case "near": case "helper": ask(c, near(0, 1), 0, 0, 0, 0); break;
                case "turnsAt": ask(c, drawnOffs(), near(0, g), 0, 0, 0); break;
                case "opens": ask(c, drawnOffs(), 0, 0, 0, 0); break;
                case "when": ask(c, near(0, g), near(0, 2), 0, 0, 0); break;
                case "best": case "waits": case "thief": ask(c, near(0, g), near(0, 1), 0, 0, 0); break;
                case "pair": ask(c, near(0, g), near(0, g), near(0, 1), 0, 0); break;
                case "sure": ask(c, near(0, g), near(0, g), 0, 0, 0); break;
                case "shift": ask(c, near(0, s), near(-9, 9), 0, 0, 0); break;
                case "gain": ask(c, near(0, g), 0, 0, 0, 0); break;
                case "rest": ask(c, near(0, g), near(0, g), draw.nextInt(2) == 0 ? near(-1, 40) : near(-1, 2), 0, 0); break;
                case "scratch": askScratch(c, g, s); break;
                case "fits": ask(c, near(-1, s), 0, 0, 0, 0); break;
                case "sets": ask(c, near(-1, 4), 0, 0, 0, 0); break;
                case "moment": case "exact": ask(c, near(0, 2), 0, 0, 0, 0); break;
                case "better": ask(c, near(0, g), near(0, p), near(0, p), 0, 0); break;
                case "lossy": ask(c, near(0, 100), 0, 0, 0, 0); break;
                case "route": ask(c, near(0, s), near(0, 1), 0, 0, 0); break;
                case "seed": ask(c, draw.nextInt(), draw.nextInt(), 0, 0, 0); break;
                case "night": for (int i = 0, n = draw.nextInt(30) == 0 ? 42 : 2; i < n; i++) ask(c, 0, 0, 0, 0, 0); break;
                case "turned": ask(c, near(0, plain.nights.size() - 1), near(0, g), 0, 0, 0); break;
                case "opened": ask(c, near(0, plain.nights.size() - 1), 0, 0, 0, 0); break;
                case "count": ask(c, near(0, 8), 0, 0, 0, 0); break;
                default: ask(c, 0, 0, 0, 0, 0); break;
            }
        }

        /** Half of them as in some way, so that some fit. */
        void askScratch(int c, int g, int s) {
            int guard = near(0, g);
            int sign = near(-1, s);
            int part = near(draw.nextInt(8) == 0 ? -99 : 0, draw.nextInt(8) == 0 ? 199 : 20);
            if (guard >= 0 && guard <= g && sign >= -1 && sign <= s && draw.nextInt(4) != 0) {
                int[] offs = new int[s + 1];
                for (int i = 0; i <= s; i++) offs[i] = draw.nextInt(3) == 0 ? pick(-plain.signs.get(i).error, plain.signs.get(i).error) : 0;
                World w = plain.world();
                Integer t = sign < 0 ? w.turns(offs)[guard] : w.heard(guard, sign, w.times(offs));
                if (t != null) part = t;
            }
            ask(c, guard, sign, part, 0, 0);
            if (draw.nextInt(2) == 0) askScratch(c, g, s);
            if (draw.nextInt(2) == 0) ask(25, near(-1, s), 0, 0, 0, 0);
            if (draw.nextInt(2) == 0) ask(26, 0, 0, 0, 0, 0);
        }

        void ask(int c, int a, int b, int d, int e, int f) {
            String call = CALLS[c] + "(" + a + ", " + b + ", " + d + ", " + e + ", " + f + ")";
            String want = plain.answer(CALLS[c], a, b, d, e, f);
            String got;
            try {
                got = answerOf(keys, CALLS[c], a, b, d, e, f);
            } catch (NoSuchElementException x) {
                got = "NoSuchElementException";
            } catch (RuntimeException x) {
                got = "throws " + x;
            }
            asked[c]++;
            if (!want.equals("-1") && !want.equals("" + HIDDEN) && !want.equals("NoSuchElementException") && !want.equals("-2")) plainAnswers[c]++;
            told.append(call).append(" -> ").append(want).append('\n');
            if (!got.equals(want)) {
                wrong++;
                System.out.println("run " + number + ": " + call + " answered " + got + ", due is " + want);
                if (wrong == 1) System.out.println(told + "LAND: " + plain.landText + "\nPLANS: " + plain.planTexts);
            }
        }
    }

    static String answerOf(FarKeys k, String call, int a, int b, int c, int d, int e) {
        switch (call) {
            case "feed": return "" + k.feed(a, b, c, d, e);
            case "end": return "" + k.end(a);
            case "fault": return "" + k.fault(a);
            case "text": return "" + k.text(a);
            case "sign": return "" + k.sign(a, b);
            case "guard": return "" + k.guard(a, b);
            case "hears": return "" + k.hears(a, b);
            case "plan": return "" + k.plan(a, b);
            case "ways": return "" + k.ways(a);
            case "odds": return "" + k.odds(a);
            case "turnsAt": return "" + k.turnsAt(a, b);
            case "opens": return "" + k.opens(a);
            case "when": return "" + k.when(a, b);
            case "near": return "" + k.near(a);
            case "enough": return "" + k.enough();
            case "best": return "" + k.best(a, b);
            case "pair": return "" + k.pair(a, b, c);
            case "sure": return "" + k.sure(a, b);
            case "idle": return "" + k.idle();
            case "shift": return "" + k.shift(a, b);
            case "waits": return "" + k.waits(a, b);
            case "gain": return "" + k.gain(a);
            case "rest": return "" + k.rest(a, b, c);
            case "thief": return "" + k.thief(a, b);
            case "scratch": return "" + k.scratch(a, b, c);
            case "fits": return "" + k.fits(a);
            case "lies": return "" + k.lies();
            case "sets": return "" + k.sets(a);
            case "moment": return "" + k.moment(a);
            case "better": return "" + k.better(a, b, c);
            case "exact": return "" + k.exact(a);
            case "lossy": return "" + k.lossy(a);
            case "route": return "" + k.route(a, b);
            case "deaf": return "" + k.deaf();
            case "helper": return "" + k.helper(a);
            case "seed": return "" + k.seed((long) a << 32 ^ b);
            case "night": return "" + k.night();
            case "turned": return "" + k.turned(a, b);
            case "opened": return "" + k.opened(a);
            case "undo": return "" + k.undo();
            case "image": return "" + k.image();
            case "back": return "" + k.back();
            default: return "" + k.count(a);
        }
    }

    // ---- the second program

    static final class Fault extends RuntimeException {
        private static final long serialVersionUID = 1L;
        final int at;
        Fault(int at) { this.at = at; }
    }

    static final class Guard { int prize = 10, trying = 0; }

    static final class Sign { int parts = 0, error = 0, behind = NONE, sender = 0; }

    static final class Hearing { int sign = 0, guard = 0, later = 0; }

    /** A PLAN as a tree. */
    static final class Node {
        char kind;
        int sign, later;
        List<Node> parts = new ArrayList<>();
    }

    static final class Scanner {
        final String t;
        int at = 0;
        Scanner(String t) { this.t = t; }
        char peek() {
            while (at < t.length() && t.charAt(at) == ' ') at++;
            return at < t.length() ? t.charAt(at) : 0;
        }
        char take() { char c = peek(); at++; return c; }
        int number(int least, int most) {
            if (!Character.isDigit(peek()) || peek() > '9') throw new Fault(at);
            int end = at;
            while (end < t.length() && t.charAt(end) >= '0' && t.charAt(end) <= '9') end++;
            if (end - at > 2) throw new Fault(at + 2);
            int n = Integer.parseInt(t.substring(at, end));
            if (n < least || n > most) throw new Fault(end - 1);
            at = end;
            return n;
        }
    }

    /** The LAND in whatever form it is asked of: with SIGNS lost, shifted, heard otherwise. */
    static final class World {
        List<Guard> guards;
        List<Sign> signs = new ArrayList<>();
        Integer[][] later;
        int need, breath;
        boolean[] lost;
        Node[] plan;
        /** Takes the place of a GUARD's PLAN: by the SIGN as it is (a THIEF's), so much later. */
        int thief = NONE, thiefSign, thiefLater;
        int waiter = NONE, wait;
        int only = -1;

        Integer[] times(int[] offs) {
            Integer[] at = new Integer[signs.size()];
            for (int s = 0; s < at.length; s++) {
                Sign x = signs.get(s);
                if (lost[s]) continue;
                if (x.behind < 0) at[s] = x.parts + offs[s];
                else {
                    Integer h = heard(x.sender, x.behind, at);
                    if (h != null) at[s] = h + x.parts + offs[s];
                }
            }
            return at;
        }

        Integer heard(int guard, int sign, Integer[] at) {
            if (sign >= at.length || at[sign] == null || later[guard][sign] == null) return null;
            return at[sign] + later[guard][sign];
        }

        Integer follow(Node n, int guard, Integer[] at) {
            if (n.kind == 's') {
                Integer h = heard(guard, n.sign, at);
                return h == null ? null : Integer.valueOf(h + n.later);
            }
            Integer found = null;
            for (Node p : n.parts) {
                Integer t = follow(p, guard, at);
                if (n.kind == '&') {
                    if (t == null) return null;
                    found = found == null ? t : Integer.valueOf(Math.max(found, t));
                } else if (t != null) found = found == null ? t : Integer.valueOf(Math.min(found, t));
            }
            return found;
        }

        Integer[] turns(int[] offs) {
            Integer[] at = times(offs);
            Integer[] turn = new Integer[guards.size()];
            for (int g = 0; g < turn.length; g++) {
                if ((only >> g & 1) == 0) continue;
                if (g == thief) turn[g] = at[thiefSign] == null ? null : Integer.valueOf(at[thiefSign] + thiefLater);
                else if (plan[g] != null) {
                    turn[g] = follow(plan[g], g, at);
                    if (g == waiter && turn[g] != null) turn[g] += wait;
                }
            }
            return turn;
        }

        /** Every choice of so many turns: the least of how far one is apart. */
        Integer spread(Integer[] turn) {
            Integer best = null;
            for (int set = 0; set < 1 << turn.length; set++) {
                if (Integer.bitCount(set) != need) continue;
                Integer low = null, high = null;
                boolean all = true;
                for (int g = 0; g < turn.length; g++) {
                    if ((set >> g & 1) == 0) continue;
                    if (turn[g] == null) { all = false; break; }
                    low = low == null ? turn[g] : Integer.valueOf(Math.min(low, turn[g]));
                    high = high == null ? turn[g] : Integer.valueOf(Math.max(high, turn[g]));
                }
                if (all && (best == null || high - low < best)) best = high - low;
            }
            return best;
        }

        boolean opens(Integer[] turn) {
            Integer s = spread(turn);
            return s != null && s <= breath;
        }

        /** By parts rising: the first at which those turned by then OPEN it. */
        Integer moment(Integer[] turn) {
            TreeSet<Integer> parts = new TreeSet<>();
            for (Integer t : turn) if (t != null) parts.add(t);
            for (int p : parts) {
                Integer[] so = turn.clone();
                for (int g = 0; g < so.length; g++) if (so[g] != null && so[g] > p) so[g] = null;
                if (opens(so)) return p;
            }
            return null;
        }

        int first(Integer[] turn) {
            int f = NONE;
            for (int g = 0; g < turn.length; g++) if (turn[g] != null && (f < 0 || turn[g] < turn[f])) f = g;
            return f;
        }

        int all() {
            int n = 1;
            for (Sign s : signs) n *= 2 * s.error + 1;
            return n;
        }

        int[] way(int number) {
            int[] offs = new int[signs.size()];
            for (int s = 0; s < offs.length; s++) {
                int m = 2 * signs.get(s).error + 1;
                offs[s] = number % m - signs.get(s).error;
                number /= m;
            }
            return offs;
        }

        int ways() {
            int n = 0;
            for (int w = 0; w < all(); w++) if (opens(turns(way(w)))) n++;
            return n;
        }

        int[] gains() {
            int[] gain = new int[guards.size()];
            for (int w = 0; w < all(); w++) {
                Integer[] turn = turns(way(w));
                if (opens(turn)) for (int g = 0; g < gain.length; g++) gain[g] += guards.get(g).prize;
                else if (first(turn) >= 0) gain[first(turn)] += guards.get(first(turn)).trying;
            }
            return gain;
        }
    }

    static final class Night { long ahead; Integer[] turn; boolean open; }

    static final class Kept { int[] planOf; List<int[]> scratches; List<Night> nights; long x; }

    /** Follows the document; slow. */
    static final class Plain {
        String tape = "";
        String landText = "";
        List<String> planTexts = new ArrayList<>();
        List<Node> plans = new ArrayList<>();
        List<Guard> guards = new ArrayList<>();
        List<Sign> signs = new ArrayList<>();
        List<Hearing> hearings = new ArrayList<>();
        int need, breath;
        int[] planOf = new int[0];
        List<int[]> scratches = new ArrayList<>();
        List<Night> nights = new ArrayList<>();
        Kept kept = null;
        long x = 0;

        boolean land() { return !guards.isEmpty(); }
        boolean g(int g) { return g >= 0 && g < guards.size(); }
        boolean s(int s) { return s >= 0 && s < signs.size(); }
        boolean p(int p) { return p >= 0 && p < plans.size(); }

        World world() {
            World w = new World();
            w.guards = guards;
            for (Sign s : signs) {
                Sign c = new Sign();
                c.parts = s.parts; c.error = s.error; c.behind = s.behind; c.sender = s.sender;
                w.signs.add(c);
            }
            w.later = new Integer[guards.size()][signs.size()];
            for (Hearing h : hearings) w.later[h.guard][h.sign] = h.later;
            w.need = need;
            w.breath = breath;
            w.lost = new boolean[signs.size()];
            w.plan = new Node[guards.size()];
            for (int g = 0; g < planOf.length; g++) w.plan[g] = planOf[g] < 0 ? null : plans.get(planOf[g]);
            return w;
        }

        Node simple(int code) {
            Node n = new Node();
            n.kind = 's'; n.sign = code / 10; n.later = code % 10;
            return n;
        }

        // -- texts

        void readLand(String t, Plain into) {
            Scanner in = new Scanner(t);
            boolean treasury = false;
            into.need = 2; into.breath = 1;
            while (true) {
                char kind = in.peek();
                int where = in.at;
                if (kind == 'g' && into.guards.size() < 4) {
                    in.take();
                    int[] v = items(in, "pt", new int[] {0, 0}, new int[] {99, 99}, new int[] {10, 0});
                    Guard g = new Guard(); g.prize = v[0]; g.trying = v[1]; into.guards.add(g);
                } else if (kind == 's' && into.signs.size() < 5) {
                    in.take();
                    int[] v = items(in, "teov", new int[4], new int[] {59, 3, into.signs.size() - 1, 3}, new int[] {0, 0, -1, 0});
                    Sign s = new Sign(); s.parts = v[0]; s.error = v[1]; s.behind = v[2]; s.sender = v[3]; into.signs.add(s);
                } else if (kind == 'h' && into.hearings.size() < 12) {
                    in.take();
                    int[] v = items(in, "sgd", new int[3], new int[] {4, 3, 9}, new int[3]);
                    Hearing h = new Hearing(); h.sign = v[0]; h.guard = v[1]; h.later = v[2]; into.hearings.add(h);
                } else if (kind == 'b' && !treasury) {
                    in.take();
                    int[] v = items(in, "nw", new int[] {2, 0}, new int[] {4, 9}, new int[] {2, 1});
                    into.need = v[0]; into.breath = v[1]; treasury = true;
                } else throw new Fault(where);
                if (in.peek() == 0) break;
                in.take();
            }
            if (into.guards.size() < 2 || into.signs.isEmpty()) throw new Fault(t.length());
            for (Sign s : into.signs) if (s.behind >= 0 && s.sender >= into.guards.size()) throw new Fault(t.length());
            for (Hearing h : into.hearings) {
                if (h.sign >= into.signs.size() || h.guard >= into.guards.size()) throw new Fault(t.length());
                for (Hearing k : into.hearings) if (k != h && k.sign == h.sign && k.guard == h.guard) throw new Fault(t.length());
            }
        }

        int[] items(Scanner in, String letters, int[] least, int[] most, int[] value) {
            String used = "";
            while (in.peek() != 0 && in.peek() != ';') {
                char c = in.peek();
                int i = letters.indexOf(c);
                if (i < 0 || used.indexOf(c) >= 0) throw new Fault(in.at);
                used += c;
                in.take();
                value[i] = in.number(least[i], most[i]);
            }
            return value;
        }

        Node readPlan(Scanner in, int depth) {
            Node or = new Node();
            or.kind = '|';
            while (true) {
                Node and = new Node();
                and.kind = '&';
                or.parts.add(and);
                while (true) {
                    and.parts.add(readUnit(in, depth));
                    if (in.peek() != '&') break;
                    in.take();
                }
                if (in.peek() != '|') return or;
                in.take();
            }
        }

        Node readUnit(Scanner in, int depth) {
            char c = in.peek();
            if (c == '(' && depth < 6) {
                in.take();
                Node n = readPlan(in, depth + 1);
                if (in.peek() != ')') throw new Fault(in.at);
                in.take();
                return n;
            }
            if (c < 'a' || c > 'e') throw new Fault(in.at);
            Node n = new Node();
            n.kind = 's';
            n.sign = in.take() - 'a';
            if (in.peek() == '+') { in.take(); n.later = in.number(0, 99); }
            return n;
        }

        Node wholePlan(String t) {
            Scanner in = new Scanner(t);
            Node n = readPlan(in, 0);
            in.peek();
            if (in.at < t.length()) throw new Fault(in.at);
            return n;
        }

        int faultOf(int sort) {
            try {
                if (sort == 0) readLand(tape, new Plain());
                else if (sort == 1) wholePlan(tape);
                else return -2;
            } catch (Fault f) {
                return f.at;
            }
            return NONE;
        }

        int text(int sort) {
            if (sort < 0 || sort > 1 || faultOf(sort) != NONE) return NONE;
            if (sort == 1) {
                if (plans.size() == 8) return NONE;
                plans.add(wholePlan(tape));
                planTexts.add(tape);
                tape = "";
                return plans.size() - 1;
            }
            Plain n = new Plain();
            readLand(tape, n);
            landText = tape;
            guards = n.guards; signs = n.signs; hearings = n.hearings; need = n.need; breath = n.breath;
            planOf = new int[guards.size()];
            Arrays.fill(planOf, NONE);
            scratches = new ArrayList<>();
            nights = new ArrayList<>();
            kept = null;
            tape = "";
            return guards.size();
        }

        int feed(int... numbers) {
            StringBuilder more = new StringBuilder();
            for (int n : numbers) {
                byte[] four = java.nio.ByteBuffer.allocate(4).putInt(n).array();
                for (byte b : four) if (b != 0) more.append((char) (b & 255));
            }
            if (tape.length() + more.length() > 160) return NONE;
            tape += more;
            return tape.length();
        }

        // -- answers

        int[] offsOf(int number) {
            if (number < 0) return null;
            String d = "" + number;
            while (d.length() < signs.size()) d = "0" + d;
            if (d.length() > signs.size()) return null;
            int[] offs = new int[signs.size()];
            for (int i = 0; i < offs.length; i++) {
                offs[i] = d.charAt(i) - '0' - 3;
                if (Math.abs(offs[i]) > signs.get(i).error) return null;
            }
            return offs;
        }

        int plainPart(int above, int below, int part) {
            int d = java.math.BigInteger.valueOf(above).gcd(java.math.BigInteger.valueOf(below)).intValue();
            return part == 0 ? above / d : below / d;
        }

        int when(int guard, int what) {
            World w = world();
            int low = HIDDEN, high = HIDDEN, never = 0;
            for (int i = 0; i < w.all(); i++) {
                Integer t = w.turns(w.way(i))[guard];
                if (t == null) never++;
                else {
                    low = low == HIDDEN ? t : Math.min(low, t);
                    high = high == HIDDEN ? t : Math.max(high, t);
                }
            }
            return what == 0 ? low : what == 1 ? high : never;
        }

        int near(int what) {
            World w = world();
            int low = NONE, high = NONE;
            for (int i = 0; i < w.all(); i++) {
                Integer d = w.spread(w.turns(w.way(i)));
                if (d != null) {
                    low = low == NONE ? d : Math.min(low, d);
                    high = Math.max(high, d);
                }
            }
            return what == 0 ? low : high;
        }

        int enough() {
            World w = world();
            for (int breath = 0; breath <= 99; breath++) {
                w.breath = breath;
                boolean all = true;
                for (int i = 0; i < w.all() && all; i++) all = w.opens(w.turns(w.way(i)));
                if (all) return breath;
            }
            return NONE;
        }

        int best(int guard, int what) {
            int best = NONE, most = NONE;
            for (int c = 0; c < 10 * signs.size(); c++) {
                World w = world();
                w.plan[guard] = simple(c);
                int ways = w.ways();
                if (ways > most) { most = ways; best = c; }
            }
            return what == 0 ? best : most;
        }

        int thief(int guard, int what) {
            int best = NONE, most = NONE;
            for (int c = 0; c < 10 * signs.size(); c++) {
                World w = world();
                w.thief = guard; w.thiefSign = c / 10; w.thiefLater = c % 10;
                int ways = w.ways();
                if (ways > most) { most = ways; best = c; }
            }
            return what == 0 ? best : most;
        }

        int waits(int guard, int what) {
            int best = NONE, most = NONE;
            for (int c = 0; c < 10; c++) {
                World w = world();
                w.waiter = guard; w.wait = c;
                int ways = w.ways();
                if (ways > most) { most = ways; best = c; }
            }
            return what == 0 ? best : most;
        }

        boolean noPair(int one, int other) { return !g(one) || !g(other) || one == other || world().all() > 400; }

        int pair(int one, int other, int what) {
            int best = NONE, most = NONE;
            for (int c = 0; c < 10 * signs.size(); c++)
                for (int d = 0; d < 10 * signs.size(); d++) {
                    World w = world();
                    w.plan[one] = simple(c); w.plan[other] = simple(d);
                    int ways = w.ways();
                    if (ways > most) { most = ways; best = 100 * c + d; }
                }
            return what == 0 ? best : most;
        }

        int sure(int one, int other) {
            int n = 0;
            for (int c = 0; c < 10 * signs.size(); c++)
                for (int d = 0; d < 10 * signs.size(); d++) {
                    World w = world();
                    w.plan[one] = simple(c); w.plan[other] = simple(d);
                    boolean all = true;
                    for (int i = 0; i < w.all() && all; i++) all = w.opens(w.turns(w.way(i)));
                    if (all) n++;
                }
            return n;
        }

        int rest(int one, int other, int i) {
            int m = 10 * signs.size();
            int[][] a = new int[m][m], b = new int[m][m];
            for (int c = 0; c < m; c++)
                for (int d = 0; d < m; d++) {
                    World w = world();
                    w.plan[one] = simple(c); w.plan[other] = simple(d);
                    int[] gains = w.gains();
                    a[c][d] = gains[one]; b[c][d] = gains[other];
                }
            List<Integer> found = new ArrayList<>();
            for (int c = 0; c < m; c++)
                for (int d = 0; d < m; d++) {
                    boolean rests = true;
                    for (int k = 0; k < m; k++) rests &= a[k][d] <= a[c][d] && b[c][k] <= b[c][d];
                    if (rests) found.add(100 * c + d);
                }
            return i == NONE ? found.size() : i >= 0 && i < found.size() ? found.get(i) : NONE;
        }

        int idle() {
            int base = world().ways(), bits = 0;
            for (int s = 0; s < signs.size(); s++) {
                World w = world();
                w.lost[s] = true;
                if (w.ways() >= base) bits |= 1 << s;
            }
            return bits;
        }

        boolean isSo(World w, int[] offs, int[] scratch) {
            Integer t = scratch[1] == NONE ? w.turns(offs)[scratch[0]] : w.heard(scratch[0], scratch[1], w.times(offs));
            return t != null && t == scratch[2];
        }

        int fits(int sign) {
            World w = world();
            int n = 0, bits = 0;
            for (int i = 0; i < w.all(); i++) {
                int[] offs = w.way(i);
                boolean all = true;
                for (int[] scratch : scratches) all &= isSo(w, offs, scratch);
                if (all) { n++; if (sign >= 0) bits |= 1 << offs[sign] + 3; }
            }
            return sign == NONE ? n : bits;
        }

        int lies() {
            World w = world();
            int all = 1 << scratches.size();
            boolean[] can = new boolean[all];
            for (int i = 0; i < w.all(); i++) {
                int[] offs = w.way(i);
                int bits = 0;
                for (int k = 0; k < scratches.size(); k++) if (!isSo(w, offs, scratches.get(k))) bits |= 1 << k;
                can[bits] = true;
            }
            for (int size = 0; size <= scratches.size(); size++)
                for (int bits = 0; bits < all; bits++) if (can[bits] && Integer.bitCount(bits) == size) return bits;
            throw new IllegalStateException("there is always a way");
        }

        int sets(int i) {
            List<Integer> found = new ArrayList<>();
            for (int set = 1; set < 1 << guards.size(); set++) {
                World w = world();
                w.only = set;
                boolean all = true;
                for (int k = 0; k < w.all() && all; k++) all = w.opens(w.turns(w.way(k)));
                if (all) found.add(set);
            }
            return i == NONE ? found.size() : i >= 0 && i < found.size() ? found.get(i) : NONE;
        }

        int moment(int what) {
            World w = world();
            int low = HIDDEN, high = HIDDEN, sum = 0;
            for (int i = 0; i < w.all(); i++) {
                Integer m = w.moment(w.turns(w.way(i)));
                if (m == null) continue;
                low = low == HIDDEN ? m : Math.min(low, m);
                high = high == HIDDEN ? m : Math.max(high, m);
                sum += m;
            }
            return low == HIDDEN ? HIDDEN : what == 0 ? low : what == 1 ? high : sum;
        }

        int better(int guard, int one, int other) {
            World w = world();
            w.plan[guard] = plans.get(one);
            World v = world();
            v.plan[guard] = plans.get(other);
            return w.ways() - v.ways();
        }

        int exact(int what) {
            int best = NONE, above = 0, below = 1;
            for (int s = 0; s < signs.size(); s++) {
                World w = world();
                w.signs.get(s).error = 0;
                int ways = w.ways();
                if (best == NONE || (long) ways * below > (long) above * w.all()) { best = s; above = ways; below = w.all(); }
            }
            return what == 0 ? best : plainPart(above, below, what - 1);
        }

        long lossy(int risk, int sign, long parts, boolean[] lost) {
            if (sign == signs.size()) {
                World w = world();
                w.lost = lost.clone();
                return parts == 0 ? 0 : parts * w.ways() / w.all();
            }
            long gone = parts * risk / 100;
            lost[sign] = true;
            long sum = lossy(risk, sign + 1, gone, lost);
            lost[sign] = false;
            return sum + lossy(risk, sign + 1, parts - gone, lost);
        }

        int route(int sign, int what) {
            if (what == 0) {
                int n = 0;
                for (int s = signs.get(sign).behind; s >= 0; s = signs.get(s).behind) n++;
                return n;
            }
            World w = world();
            int sum = w.signs.get(sign).parts;
            for (int s = sign; w.signs.get(s).behind >= 0; s = w.signs.get(s).behind) {
                Integer later = w.later[w.signs.get(s).sender][w.signs.get(s).behind];
                if (later == null) return HIDDEN;
                sum += later + w.signs.get(w.signs.get(s).behind).parts;
            }
            return sum;
        }

        int deaf() {
            int base = world().ways(), bits = 0;
            for (int g = 0; g < guards.size(); g++) {
                World w = world();
                w.later[g] = new Integer[signs.size()];
                if (w.ways() < base) bits |= 1 << g;
            }
            return bits;
        }

        int helper(int what) {
            int best = NONE, most = NONE;
            for (int g = 0; g < guards.size(); g++)
                for (int s = 0; s < signs.size(); s++) {
                    World w = world();
                    if (w.later[g][s] != null) continue;
                    w.later[g][s] = 0;
                    int ways = w.ways();
                    if (ways > most) { most = ways; best = 10 * g + s; }
                }
            return what == 0 ? best : most;
        }

        int night() {
            if (!land() || nights.size() == 40) return NONE;
            Night n = new Night();
            n.ahead = x;
            int[] offs = new int[signs.size()];
            for (int s = 0; s < offs.length; s++) {
                x = x * 6364136223846793005L + 1442695040888963407L;
                offs[s] = (int) ((x >>> 33) % (2 * signs.get(s).error + 1)) - signs.get(s).error;
            }
            World w = world();
            n.turn = w.turns(offs);
            n.open = w.opens(n.turn);
            nights.add(n);
            return n.open ? 1 : 0;
        }

        int undo() {
            if (nights.isEmpty()) return NONE;
            x = nights.remove(nights.size() - 1).ahead;
            return nights.size();
        }

        int image() {
            if (!land()) return NONE;
            kept = new Kept();
            kept.planOf = planOf.clone();
            kept.scratches = new ArrayList<>(scratches);
            kept.nights = new ArrayList<>(nights);
            kept.x = x;
            return nights.size();
        }

        int back() {
            if (kept == null) return NONE;
            planOf = kept.planOf.clone();
            scratches = new ArrayList<>(kept.scratches);
            nights = new ArrayList<>(kept.nights);
            x = kept.x;
            return nights.size();
        }

        int count(int what) {
            switch (what) {
                case 0: return guards.size();
                case 1: return signs.size();
                case 2: return plans.size();
                case 3: return tape.length();
                case 4: return land() ? need : 0;
                case 5: return land() ? breath : 0;
                case 6: return scratches.size();
                case 7: return nights.size();
                case 8: { int n = 0; for (Night k : nights) if (k.open) n++; return n; }
                default: return HIDDEN;
            }
        }

        int signAsked(int s, int what) {
            Sign x = signs.get(s);
            return what == 0 ? x.parts : what == 1 ? x.error : what == 2 ? x.behind : x.sender;
        }

        int scratch(int a, int b, int c) {
            if (!g(a) || b != NONE && !s(b) || c < -99 || c > 199 || scratches.size() == 10) return NONE;
            scratches.add(new int[] {a, b, c});
            return scratches.size();
        }

        boolean two(int what) { return what == 0 || what == 1; }
        boolean three(int what) { return what >= 0 && what <= 2; }

        String answer(String call, int a, int b, int c, int d, int e) {
            switch (call) {
                case "feed": return "" + feed(a, b, c, d, e);
                case "end":
                    if (a < 0 || a > tape.length()) return "false";
                    tape = tape.substring(0, a);
                    return "true";
                case "fault": return "" + faultOf(a);
                case "text": return "" + text(a);
                case "sign": return !s(a) || b < 0 || b > 3 ? "NoSuchElementException" : "" + signAsked(a, b);
                case "guard": return "" + (!g(a) || !three(b) ? NONE : b == 0 ? guards.get(a).prize : b == 1 ? guards.get(a).trying : planOf[a]);
                case "hears": return "" + (!g(a) || !s(b) || world().later[a][b] == null ? NONE : world().later[a][b]);
                case "plan":
                    if (!g(a) || b != NONE && !p(b)) return "false";
                    planOf[a] = b;
                    return "true";
                case "ways": return "" + (!land() || !two(a) ? NONE : a == 0 ? world().ways() : world().all());
                case "odds": return "" + (!land() || !two(a) ? NONE : plainPart(world().ways(), world().all(), a));
                case "turnsAt": {
                    if (!g(b) || offsOf(a) == null) return "" + HIDDEN;
                    Integer t = world().turns(offsOf(a))[b];
                    return "" + (t == null ? HIDDEN : t);
                }
                case "opens": return "" + (!land() || offsOf(a) == null ? NONE : world().opens(world().turns(offsOf(a))) ? 1 : 0);
                case "when": return "" + (!g(a) || !three(b) ? HIDDEN : when(a, b));
                case "near": return "" + (!land() || !two(a) ? NONE : near(a));
                case "enough": return "" + (!land() ? NONE : enough());
                case "best": return "" + (!g(a) || !two(b) ? NONE : best(a, b));
                case "pair": return "" + (noPair(a, b) || !two(c) ? NONE : pair(a, b, c));
                case "sure": return "" + (noPair(a, b) ? NONE : sure(a, b));
                case "idle": return "" + (!land() ? NONE : idle());
                case "shift": {
                    if (!s(a) || b < -9 || b > 9) return "" + NONE;
                    World w = world();
                    w.signs.get(a).parts += b;
                    return "" + w.ways();
                }
                case "waits": return "" + (!g(a) || !two(b) ? NONE : waits(a, b));
                case "gain": return "" + (!g(a) ? NONE : world().gains()[a]);
                case "rest": return "" + (noPair(a, b) ? NONE : rest(a, b, c));
                case "thief": return "" + (!g(a) || !two(b) ? NONE : thief(a, b));
                case "scratch": return "" + scratch(a, b, c);
                case "fits": return "" + (!land() || a != NONE && !s(a) ? NONE : fits(a));
                case "lies": return "" + (!land() ? NONE : lies());
                case "sets": return "" + (!land() ? NONE : sets(a));
                case "moment": return "" + (!land() || !three(a) ? HIDDEN : moment(a));
                case "better": return "" + (!g(a) || !p(b) || !p(c) ? HIDDEN : better(a, b, c));
                case "exact": return "" + (!land() || !three(a) ? NONE : exact(a));
                case "lossy": return "" + (!land() || a < 0 || a > 100 ? NONE : lossy(a, 0, 1000000000L, new boolean[signs.size()]));
                case "route": return "" + (!s(a) || !two(b) ? NONE : route(a, b));
                case "deaf": return "" + (!land() ? NONE : deaf());
                case "helper": return "" + (!land() || !two(a) ? NONE : helper(a));
                case "seed": x = (long) a << 32 ^ b; return "true";
                case "night": return "" + night();
                case "turned": return "" + (!g(b) || a < 0 || a >= nights.size() || nights.get(a).turn[b] == null ? HIDDEN : nights.get(a).turn[b]);
                case "opened": return "" + (a < 0 || a >= nights.size() ? NONE : nights.get(a).open ? 1 : 0);
                case "undo": return "" + undo();
                case "image": return "" + image();
                case "back": return "" + back();
                default: return "" + count(a);
            }
        }
    }
}
