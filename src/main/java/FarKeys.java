import java.util.NoSuchElementException;

/**
 * Two keys turned far apart: a LAND of GUARDS, SIGNS and a TREASURY, told as a text, the PLANS by
 * which its GUARDS turn, and all that can be asked of both. The words in capitals are those of the
 * document.
 */
public final class FarKeys {

    public static final int NONE = -1;
    public static final int HIDDEN = -1000000;

    private static final int NO_SUCH_SORT = -2;
    private static final int MOST_GUARDS = 4;
    private static final int MOST_SIGNS = 5;
    private static final int MOST_HEARINGS = 12;
    private static final int MOST_PLANS = 8;
    private static final int MOST_BYTES = 160;
    private static final int MOST_INNER = 6;
    private static final int MOST_SCRATCHES = 10;
    private static final int MOST_NIGHTS = 40;
    private static final int MOST_PAIR_WAYS = 400;
    private static final int MOST_ENOUGH = 99;
    private static final int MOST_SHIFT = 9;
    private static final int LEAST_SCRATCHED = -99;
    private static final int MOST_SCRATCHED = 199;
    private static final int MOST_ERROR = 3;
    private static final int ALL_RISK = 100;
    private static final long ALL_PARTS = 1000000000L;

    /** A SIMPLE plan is a SIGN and one of so many numbers; its own number is NUMBERS times the SIGN and that. */
    private static final int NUMBERS = 10;
    private static final int MOST_SIMPLE = MOST_SIGNS * NUMBERS;

    /** Far above every part: so the latest of several is never if one is, the earliest only if all are. */
    private static final int NEVER = 1000000;

    /** How much LATER a GUARD hears what it does not hear: so far that even of a part below 0 it is never. */
    private static final int UNHEARD = 2 * NEVER;

    private static final int GUARD_CLAUSE = 0;
    private static final int SIGN_CLAUSE = 1;
    private static final int HEARING_CLAUSE = 2;
    private static final int TREASURY_CLAUSE = 3;

    /** Of each kind of CLAUSE, in the order of the kinds above: the letters of its ITEMS (0: none). */
    private static final int ITEMS = 4;
    private static final int BEHIND_ITEM = 2;
    private static final char[] ITEM_LETTERS = {
        'p', 't', 0, 0, 't', 'e', 'o', 'v', 's', 'g', 'd', 0, 'n', 'w', 0, 0};
    private static final int[] LEAST_OF_ITEM = {0, 0, 0, 0, 0, 0, 0, 0, 0, 0, 0, 0, 2, 0, 0, 0};
    private static final int[] MOST_OF_ITEM = {99, 99, 0, 0, 59, 3, 0, 3, 4, 3, 9, 0, 4, 9, 0, 0};
    private static final int[] WITHOUT_ITEM = {10, 0, 0, 0, 0, 0, NONE, 0, 0, 0, 0, 0, 2, 1, 0, 0};

    private final Tape tape;
    private final LandReader landReader;
    private final PlanReader planReader;
    private final Plans plans;
    private final Land land;
    private final Land other;
    private final int[] otherPlans;
    private final int[] offs;
    private final Book book;
    private final Book kept;
    private boolean hasImage;
    private final Walk walk;
    private final Survey survey;
    private final Solo solo;
    private final Duel duel;

    public FarKeys() {
        tape = new Tape();
        landReader = new LandReader(tape);
        planReader = new PlanReader(tape);
        plans = new Plans();
        land = new Land();
        other = new Land();
        otherPlans = new int[MOST_GUARDS];
        offs = new int[MOST_SIGNS];
        book = new Book();
        kept = new Book();
        walk = new Walk(plans, land);
        survey = new Survey();
        solo = new Solo();
        duel = new Duel();
    }

    public int feed(int a, int b, int c, int d, int e) {
        int more = Tape.filled(a) + Tape.filled(b) + Tape.filled(c) + Tape.filled(d) + Tape.filled(e);
        if (tape.length + more > MOST_BYTES) {
            return NONE;
        }
        tape.add(a);
        tape.add(b);
        tape.add(c);
        tape.add(d);
        tape.add(e);
        return tape.length;
    }

    public boolean end(int n) {
        if (n < 0 || n > tape.length) {
            return false;
        }
        tape.length = n;
        return true;
    }

    public int fault(int sort) {
        if (sort == 0) {
            return landReader.read();
        }
        return sort == 1 ? planReader.read() : NO_SUCH_SORT;
    }

    public int text(int sort) {
        if (sort == 0) {
            return takeLand();
        }
        return sort == 1 ? takePlan() : NONE;
    }

    public int sign(int sign, int what) throws NoSuchElementException {
        if (!isSign(sign) || what < 0 || what > 3) {
            throw new NoSuchElementException("no such SIGN, no such what");
        }
        switch (what) {
            case 0:
                return land.parts[sign];
            case 1:
                return land.error[sign];
            case 2:
                return land.behind[sign];
            default:
                return land.sender[sign];
        }
    }

    public int guard(int guard, int what) {
        if (!isGuard(guard)) {
            return NONE;
        }
        switch (what) {
            case 0:
                return land.prize[guard];
            case 1:
                return land.trying[guard];
            case 2:
                return book.planOf[guard];
            default:
                return NONE;
        }
    }

    public int hears(int guard, int sign) {
        if (!isGuard(guard) || !isSign(sign)) {
            return NONE;
        }
        int later = land.delay[guard * MOST_SIGNS + sign];
        return later == UNHEARD ? NONE : later;
    }

    public boolean plan(int guard, int plan) {
        if (!isGuard(guard) || plan != NONE && !isPlan(plan)) {
            return false;
        }
        book.planOf[guard] = plan;
        forgetAnswers();
        return true;
    }

    public int ways(int what) {
        if (!isTold() || !isWithin(what, 1)) {
            return NONE;
        }
        return what == 0 ? surveyed().ways : land.allWays();
    }

    public int odds(int part) {
        if (!isTold() || !isWithin(part, 1)) {
            return NONE;
        }
        return partOfFraction(surveyed().ways, land.allWays(), part);
    }

    public int turnsAt(int offs, int guard) {
        if (!isGuard(guard) || !readOffs(offs)) {
            return HIDDEN;
        }
        walk.place(land, book.planOf, this.offs);
        return orHidden(walk.turn[guard]);
    }

    public int opens(int offs) {
        if (!isTold() || !readOffs(offs)) {
            return NONE;
        }
        walk.place(land, book.planOf, this.offs);
        return walk.isOpen() ? 1 : 0;
    }

    public int when(int guard, int what) {
        if (!isGuard(guard) || !isWithin(what, 2)) {
            return HIDDEN;
        }
        Survey seen = surveyed();
        if (what == 2) {
            return seen.never[guard];
        }
        return orHidden(what == 0 ? seen.earliest[guard] : seen.latest[guard]);
    }

    public int near(int what) {
        if (!isTold() || !isWithin(what, 1)) {
            return NONE;
        }
        Survey seen = surveyed();
        if (seen.leastSpread >= NEVER) {
            return NONE;
        }
        return what == 0 ? seen.leastSpread : seen.mostSpread;
    }

    public int enough() {
        if (!isTold()) {
            return NONE;
        }
        Survey seen = surveyed();
        return seen.someTooFew || seen.mostSpread > MOST_ENOUGH ? NONE : seen.mostSpread;
    }

    public int best(int guard, int what) {
        if (!isGuard(guard) || !isWithin(what, 1)) {
            return NONE;
        }
        solo.trySimple(walk, land, book.planOf, guard, false);
        return solo.answer(land.signs * NUMBERS, what);
    }

    public int pair(int one, int other, int what) {
        if (!isPair(one, other) || !isWithin(what, 1)) {
            return NONE;
        }
        Duel tried = dueled(one, other);
        int most = tried.mostOpen();
        return what == 0 ? tried.codeOf(most) : tried.open[most];
    }

    public int sure(int one, int other) {
        if (!isPair(one, other)) {
            return NONE;
        }
        return dueled(one, other).countOpenIn(land.allWays());
    }

    public int idle() {
        if (!isTold()) {
            return NONE;
        }
        int ways = surveyed().ways;
        int bits = 0;
        for (int sign = 0; sign < land.signs; sign++) {
            other.copy(land);
            other.lost = 1 << sign;
            if (walk.tally(other, book.planOf) >= ways) {
                bits |= 1 << sign;
            }
        }
        return bits;
    }

    public int shift(int sign, int by) {
        if (!isSign(sign) || by < -MOST_SHIFT || by > MOST_SHIFT) {
            return NONE;
        }
        other.copy(land);
        other.parts[sign] += by;
        return walk.tally(other, book.planOf);
    }

    public int waits(int guard, int what) {
        if (!isGuard(guard) || !isWithin(what, 1)) {
            return NONE;
        }
        solo.tryWaiting(walk, land, book.planOf, guard);
        return solo.answer(NUMBERS, what);
    }

    public int gain(int guard) {
        if (!isGuard(guard)) {
            return NONE;
        }
        Survey seen = surveyed();
        return land.gainOf(guard, seen.ways, seen.first[guard]);
    }

    public int rest(int one, int other, int i) {
        if (!isPair(one, other) || i < NONE) {
            return NONE;
        }
        return dueled(one, other).findRest(land, i);
    }

    public int thief(int guard, int what) {
        if (!isGuard(guard) || !isWithin(what, 1)) {
            return NONE;
        }
        solo.trySimple(walk, land, book.planOf, guard, true);
        return solo.answer(land.signs * NUMBERS, what);
    }

    public int scratch(int guard, int sign, int part) {
        if (!isGuard(guard) || sign != NONE && !isSign(sign)) {
            return NONE;
        }
        if (part < LEAST_SCRATCHED || part > MOST_SCRATCHED || book.scratches >= MOST_SCRATCHES) {
            return NONE;
        }
        book.addScratch(guard, sign, part);
        return book.scratches;
    }

    public int fits(int sign) {
        if (!isTold() || sign != NONE && !isSign(sign)) {
            return NONE;
        }
        int steps = walk.start(land, book.planOf, book.scratchedSigns());
        int fitting = 0;
        int bits = 0;
        for (int i = 0; i < steps; i++) {
            if (book.unlike(walk) == 0) {
                fitting += walk.weight;
                bits |= sign == NONE ? 0 : walk.offBits(sign);
            }
            walk.step();
        }
        return sign == NONE ? fitting : bits;
    }

    public int lies() {
        if (!isTold()) {
            return NONE;
        }
        int steps = walk.start(land, book.planOf, book.scratchedSigns());
        int fewest = (1 << book.scratches) - 1;
        for (int i = 0; i < steps; i++) {
            int unlike = book.unlike(walk);
            int less = Integer.bitCount(unlike) - Integer.bitCount(fewest);
            if (less < 0 || less == 0 && unlike < fewest) {
                fewest = unlike;
            }
            walk.step();
        }
        return fewest;
    }

    public int sets(int i) {
        if (!isTold() || i < NONE) {
            return NONE;
        }
        int sets = surveyed().openSets(walk, land, book.planOf);
        int found = 0;
        for (int set = 1; set < 1 << land.guards; set++) {
            if ((sets >> set & 1) != 0) {
                if (found == i) {
                    return set;
                }
                found++;
            }
        }
        return i == NONE ? found : NONE;
    }

    public int moment(int what) {
        if (!isTold() || !isWithin(what, 2) || surveyed().ways == 0) {
            return HIDDEN;
        }
        switch (what) {
            case 0:
                return survey.earliestMoment;
            case 1:
                return survey.latestMoment;
            default:
                return survey.momentSum;
        }
    }

    public int better(int guard, int one, int other) {
        if (!isGuard(guard) || !isPlan(one) || !isPlan(other)) {
            return HIDDEN;
        }
        return tallyWithPlan(guard, one) - tallyWithPlan(guard, other);
    }

    public int exact(int what) {
        if (!isTold() || !isWithin(what, 2)) {
            return NONE;
        }
        int greatest = NONE;
        int above = 0;
        int below = 1;
        for (int sign = 0; sign < land.signs; sign++) {
            other.copy(land);
            other.error[sign] = 0;
            int ways = walk.tally(other, book.planOf);
            int all = other.allWays();
            if (greatest == NONE || (long) ways * below > (long) above * all) {
                greatest = sign;
                above = ways;
                below = all;
            }
        }
        return what == 0 ? greatest : partOfFraction(above, below, what - 1);
    }

    public int lossy(int risk) {
        if (!isTold() || !isWithin(risk, ALL_RISK)) {
            return NONE;
        }
        long all = Math.max(land.allWays(), 1);
        long together = 0;
        for (int lost = 0; lost < 1 << land.signs; lost++) {
            long parts = partsOfSet(lost, risk);
            if (parts > 0) {
                other.copy(land);
                other.lost = lost;
                together += parts * walk.tally(other, book.planOf) / all;
            }
        }
        return (int) together;
    }

    public int route(int sign, int what) {
        if (!isSign(sign) || !isWithin(what, 1)) {
            return NONE;
        }
        if (what == 0) {
            return land.countAhead(sign);
        }
        for (int i = 0; i < MOST_SIGNS; i++) {
            offs[i] = 0;
        }
        walk.place(land, book.planOf, offs);
        return orHidden(walk.at[sign]);
    }

    public int deaf() {
        if (!isTold()) {
            return NONE;
        }
        int ways = surveyed().ways;
        int bits = 0;
        for (int guard = 0; guard < land.guards; guard++) {
            other.copy(land);
            other.makeDeaf(guard);
            if (walk.tally(other, book.planOf) < ways) {
                bits |= 1 << guard;
            }
        }
        return bits;
    }

    public int helper(int what) {
        if (!isTold() || !isWithin(what, 1)) {
            return NONE;
        }
        int which = NONE;
        int most = NONE;
        for (int guard = 0; guard < land.guards; guard++) {
            for (int sign = 0; sign < land.signs; sign++) {
                int ways = tallyWithHearing(guard, sign);
                if (ways > most) {
                    most = ways;
                    which = NUMBERS * guard + sign;
                }
            }
        }
        return what == 0 ? which : most;
    }

    public boolean seed(long v) {
        book.draws = v;
        return true;
    }

    public int night() {
        if (!isTold() || book.nights >= MOST_NIGHTS) {
            return NONE;
        }
        long ahead = book.draws;
        for (int sign = 0; sign < land.signs; sign++) {
            offs[sign] = book.draw(2 * land.error[sign] + 1) - land.error[sign];
        }
        walk.place(land, book.planOf, offs);
        return book.addNight(ahead, walk.turn, walk.isOpen() ? 1 : 0);
    }

    public int turned(int night, int guard) {
        if (!isNight(night) || !isGuard(guard)) {
            return HIDDEN;
        }
        return orHidden(book.turned[night * MOST_GUARDS + guard]);
    }

    public int opened(int night) {
        return isNight(night) ? book.opened[night] : NONE;
    }

    public int undo() {
        return book.nights == 0 ? NONE : book.dropNight();
    }

    public int image() {
        if (!isTold()) {
            return NONE;
        }
        kept.copy(book);
        hasImage = true;
        return book.nights;
    }

    public int back() {
        if (!hasImage) {
            return NONE;
        }
        book.copy(kept);
        forgetAnswers();
        return book.nights;
    }

    public int count(int what) {
        switch (what) {
            case 0:
                return land.guards;
            case 1:
                return land.signs;
            case 2:
                return plans.count;
            case 3:
                return tape.length;
            case 4:
                return isTold() ? land.need : 0;
            case 5:
                return isTold() ? land.breath : 0;
            case 6:
                return book.scratches;
            case 7:
                return book.nights;
            case 8:
                return book.countOpened();
            default:
                return HIDDEN;
        }
    }

    private boolean isTold() {
        return land.guards > 0;
    }

    private boolean isGuard(int guard) {
        return guard >= 0 && guard < land.guards;
    }

    private boolean isSign(int sign) {
        return sign >= 0 && sign < land.signs;
    }

    private boolean isPlan(int plan) {
        return plan >= 0 && plan < plans.count;
    }

    private boolean isNight(int night) {
        return night >= 0 && night < book.nights;
    }

    private boolean isPair(int one, int other) {
        return isGuard(one) && isGuard(other) && one != other && land.allWays() <= MOST_PAIR_WAYS;
    }

    private static boolean isWithin(int number, int most) {
        return number >= 0 && number <= most;
    }

    private static int orHidden(int part) {
        return part >= NEVER ? HIDDEN : part;
    }

    private int takeLand() {
        if (landReader.read() != NONE) {
            return NONE;
        }
        land.copy(landReader.draft);
        tape.length = 0;
        book.leaveLand();
        hasImage = false;
        forgetAnswers();
        return land.guards;
    }

    private int takePlan() {
        if (plans.count >= MOST_PLANS || planReader.read() != NONE) {
            return NONE;
        }
        plans.add(planReader);
        tape.length = 0;
        return plans.count - 1;
    }

    /** What has been found of the LAND and the PLANS of its GUARDS holds no longer. */
    private void forgetAnswers() {
        survey.isFresh = false;
        survey.hasSets = false;
        duel.isFresh = false;
    }

    private Survey surveyed() {
        if (!survey.isFresh) {
            survey.take(walk, land, book.planOf);
        }
        return survey;
    }

    private Duel dueled(int one, int other) {
        if (!duel.isFresh || duel.one != one || duel.other != other) {
            duel.fill(walk, land, book.planOf, one, other);
        }
        return duel;
    }

    /** Puts the OFFS told by digits into their row; false if there are no such ones. */
    private boolean readOffs(int digits) {
        int left = digits;
        for (int sign = land.signs - 1; sign >= 0; sign--) {
            int off = left % 10 - MOST_ERROR;
            if (left < 0 || off < -land.error[sign] || off > land.error[sign]) {
                return false;
            }
            offs[sign] = off;
            left /= 10;
        }
        return left == 0;
    }

    private int tallyWithPlan(int guard, int plan) {
        for (int i = 0; i < MOST_GUARDS; i++) {
            otherPlans[i] = i == guard ? plan : book.planOf[i];
        }
        return walk.tally(land, otherPlans);
    }

    /** In how many ways it OPENS if this GUARD hears this SIGN at once; NONE if it hears it as it is. */
    private int tallyWithHearing(int guard, int sign) {
        int place = guard * MOST_SIGNS + sign;
        if (land.delay[place] != UNHEARD) {
            return NONE;
        }
        other.copy(land);
        other.delay[place] = 0;
        return walk.tally(other, book.planOf);
    }

    private long partsOfSet(int lost, int risk) {
        long parts = ALL_PARTS;
        for (int sign = 0; sign < land.signs; sign++) {
            long gone = parts * risk / ALL_RISK;
            parts = (lost >> sign & 1) != 0 ? gone : parts - gone;
        }
        return parts;
    }

    private static int partOfFraction(int above, int below, int part) {
        int most = commonDivisor(below, above);
        if (most == 0) {
            return NONE;
        }
        return part == 0 ? above / most : below / most;
    }

    private static int commonDivisor(int one, int other) {
        int left = one;
        int right = other;
        for (int i = 0; i < 64 && right != 0; i++) {
            int rest = left % right;
            left = right;
            right = rest;
        }
        return left;
    }

    /** The bytes told, and a place in them from which a TEXT is read. */
    private static final class Tape {
        private static final int BLANK = 32;

        final int[] bytes = new int[MOST_BYTES];
        int length;
        int at;
        int wrong = NONE;

        /** How many bytes of this number are not 0. */
        static int filled(int number) {
            int found = 0;
            for (int shift = 0; shift < 32; shift += 8) {
                if ((number >>> shift & 255) != 0) {
                    found++;
                }
            }
            return found;
        }

        void add(int number) {
            for (int shift = 24; shift >= 0; shift -= 8) {
                int one = number >>> shift & 255;
                if (one != 0 && length < MOST_BYTES) {
                    bytes[length] = one;
                    length++;
                }
            }
        }

        void rewind() {
            at = 0;
            wrong = NONE;
        }

        /** Only the first FAULT counts. */
        void fail(int where) {
            if (wrong == NONE) {
                wrong = where;
            }
        }

        boolean isFine() {
            return wrong == NONE;
        }

        /** Goes on over blanks: the byte behind them, NONE at the end. */
        int next() {
            while (at < length && bytes[at] == BLANK) {
                at++;
            }
            return at < length ? bytes[at] : NONE;
        }

        int number(int least, int most) {
            next();
            int start = at;
            int value = 0;
            for (int i = 0; i < 2 && isDigitAt(at); i++) {
                value = 10 * value + bytes[at] - '0';
                at++;
            }
            if (at == start || isDigitAt(at)) {
                fail(at);
            } else if (value < least || value > most) {
                fail(at - 1);
            }
            return value;
        }

        private boolean isDigitAt(int place) {
            return place < length && bytes[place] >= '0' && bytes[place] <= '9';
        }
    }

    /** Reads the TAPE as a LAND. */
    private static final class LandReader {
        final Tape tape;
        final Land draft = new Land();
        final int[] value = new int[ITEMS];

        LandReader(Tape tape) {
            this.tape = tape;
        }

        /** The FAULT; NONE: none, and the draft is the LAND. */
        int read() {
            tape.rewind();
            draft.clear();
            readClause();
            for (int i = 0; i < MOST_BYTES && tape.isFine() && tape.next() == ';'; i++) {
                tape.at++;
                readClause();
            }
            if (!draft.isWhole()) {
                tape.fail(tape.length);
            }
            return tape.wrong;
        }

        private void readClause() {
            int kind = kindOf(tape.next());
            if (kind == NONE || draft.isFull(kind)) {
                tape.fail(tape.at);
                return;
            }
            tape.at++;
            for (int item = 0; item < ITEMS; item++) {
                value[item] = WITHOUT_ITEM[kind * ITEMS + item];
            }
            int told = 0;
            for (int i = 0; i <= ITEMS && tape.isFine() && !isClauseOver(); i++) {
                told |= readItem(kind, told);
            }
            if (tape.isFine()) {
                draft.take(kind, value);
            }
        }

        private boolean isClauseOver() {
            int next = tape.next();
            return next == NONE || next == ';';
        }

        /** Its bit, to be known if its letter comes again. */
        private int readItem(int kind, int told) {
            int item = itemOf(kind, tape.next());
            if (item == NONE || (told >> item & 1) != 0) {
                tape.fail(tape.at);
                return 0;
            }
            tape.at++;
            int place = kind * ITEMS + item;
            boolean isBehind = kind == SIGN_CLAUSE && item == BEHIND_ITEM;
            value[item] = tape.number(LEAST_OF_ITEM[place], isBehind ? draft.signs - 1 : MOST_OF_ITEM[place]);
            return 1 << item;
        }

        private static int kindOf(int letter) {
            switch (letter) {
                case 'g':
                    return GUARD_CLAUSE;
                case 's':
                    return SIGN_CLAUSE;
                case 'h':
                    return HEARING_CLAUSE;
                case 'b':
                    return TREASURY_CLAUSE;
                default:
                    return NONE;
            }
        }

        private static int itemOf(int kind, int letter) {
            for (int item = 0; item < ITEMS; item++) {
                if (letter == ITEM_LETTERS[kind * ITEMS + item]) {
                    return item;
                }
            }
            return NONE;
        }
    }

    /** Reads the TAPE as a PLAN, and writes it down as the code that Plans follows. */
    private static final class PlanReader {
        final Tape tape;
        final int[] code = new int[MOST_BYTES];
        int size;
        int letters;
        private int inner;
        private boolean wantsUnit;

        PlanReader(Tape tape) {
            this.tape = tape;
        }

        /** The FAULT; NONE: none, and the code is the PLAN. */
        int read() {
            tape.rewind();
            size = 0;
            letters = 0;
            inner = 0;
            wantsUnit = true;
            for (int i = 0; i < MOST_BYTES && tape.isFine() && tape.next() != NONE; i++) {
                if (wantsUnit) {
                    readUnit();
                } else {
                    readBehindUnit();
                }
            }
            if (wantsUnit || inner > 0) {
                tape.fail(tape.length);
            }
            return tape.wrong;
        }

        private void readUnit() {
            int next = tape.next();
            if (next == '(' && inner < MOST_INNER) {
                tape.at++;
                inner++;
                write(Plans.INNER);
            } else if (next >= 'a' && next < 'a' + MOST_SIGNS) {
                tape.at++;
                readLetter(next - 'a');
                wantsUnit = false;
            } else {
                tape.fail(tape.at);
            }
        }

        private void readLetter(int sign) {
            int later = 0;
            if (tape.next() == '+') {
                tape.at++;
                later = tape.number(0, 99);
            }
            letters |= 1 << sign;
            write(sign << Plans.LATER_BITS | later & Plans.LATER_MASK);
        }

        private void readBehindUnit() {
            int next = tape.next();
            if (next == '&' || next == '|') {
                wantsUnit = true;
                if (next == '|') {
                    write(Plans.CHOICE);
                }
            } else if (next == ')' && inner > 0) {
                inner--;
                write(Plans.OUTER);
            } else {
                tape.fail(tape.at);
            }
            tape.at++;
        }

        private void write(int step) {
            if (size < MOST_BYTES) {
                code[size] = step;
                size++;
            }
        }
    }

    /**
     * The PLANS, each a row of steps: a SIGN with its number, or one of the marks below. There is no
     * mark for &: the latest of what has come since the last mark is taken anyhow.
     */
    private static final class Plans {
        static final int INNER = -1;
        static final int OUTER = -2;
        static final int CHOICE = -3;
        static final int LATER_BITS = 7;
        static final int LATER_MASK = 127;

        final int[] code = new int[MOST_PLANS * MOST_BYTES];
        final int[] size = new int[MOST_PLANS];
        final int[] letters = new int[MOST_PLANS];
        int count;
        private final int[] earliest = new int[MOST_INNER + 1];
        private final int[] latest = new int[MOST_INNER + 1];

        void add(PlanReader reader) {
            if (count < MOST_PLANS) {
                System.arraycopy(reader.code, 0, code, count * MOST_BYTES, reader.size);
                size[count] = reader.size;
                letters[count] = reader.letters;
                count++;
            }
        }

        /** The SIGNS by whose letters this PLAN goes, as bits. */
        int lettersOf(int plan) {
            return plan >= 0 && plan < count ? letters[plan] : 0;
        }

        /** When a GUARD with this PLAN turns, its delays standing from a place on in their row. */
        int turnOf(int plan, int[] at, int[] delay, int from) {
            if (plan < 0 || plan >= count) {
                return NEVER;
            }
            int level = 0;
            openLevel(0);
            int start = plan * MOST_BYTES;
            for (int i = start; i < start + size[plan]; i++) {
                int step = code[i];
                if (step >= 0) {
                    int sign = step >> LATER_BITS;
                    int part = at[sign] + delay[from + sign] + (step & LATER_MASK);
                    latest[level] = Math.max(latest[level], part);
                } else if (step == CHOICE) {
                    earliest[level] = Math.min(earliest[level], latest[level]);
                    latest[level] = -NEVER;
                } else if (step == INNER && level < MOST_INNER) {
                    level++;
                    openLevel(level);
                } else if (step == OUTER && level > 0) {
                    int part = Math.min(earliest[level], latest[level]);
                    level--;
                    latest[level] = Math.max(latest[level], part);
                }
            }
            return Math.min(earliest[0], latest[0]);
        }

        /** The earliest of no CHOICE is never: so it is also what more than that comes down to. */
        private void openLevel(int level) {
            earliest[level] = NEVER;
            latest[level] = -NEVER;
        }
    }

    /** A LAND: the one told, or another one tried in its place. No GUARDS: none is told. */
    private static final class Land {
        int guards;
        int signs;
        int hearings;
        int treasuries;
        int need;
        int breath;
        boolean hasTwins;
        /** SIGNS that are never there, as bits; none in a LAND that is told. */
        int lost;
        final int[] prize = new int[MOST_GUARDS];
        final int[] trying = new int[MOST_GUARDS];
        final int[] parts = new int[MOST_SIGNS];
        final int[] error = new int[MOST_SIGNS];
        final int[] behind = new int[MOST_SIGNS];
        final int[] sender = new int[MOST_SIGNS];
        /** How much LATER each GUARD hears each SIGN. */
        final int[] delay = new int[MOST_GUARDS * MOST_SIGNS];

        void clear() {
            guards = 0;
            signs = 0;
            hearings = 0;
            treasuries = 0;
            need = WITHOUT_ITEM[TREASURY_CLAUSE * ITEMS];
            breath = WITHOUT_ITEM[TREASURY_CLAUSE * ITEMS + 1];
            hasTwins = false;
            lost = 0;
            for (int i = 0; i < delay.length; i++) {
                delay[i] = UNHEARD;
            }
        }

        void copy(Land from) {
            guards = from.guards;
            signs = from.signs;
            hearings = from.hearings;
            treasuries = from.treasuries;
            need = from.need;
            breath = from.breath;
            hasTwins = from.hasTwins;
            lost = from.lost;
            System.arraycopy(from.prize, 0, prize, 0, MOST_GUARDS);
            System.arraycopy(from.trying, 0, trying, 0, MOST_GUARDS);
            System.arraycopy(from.parts, 0, parts, 0, MOST_SIGNS);
            System.arraycopy(from.error, 0, error, 0, MOST_SIGNS);
            System.arraycopy(from.behind, 0, behind, 0, MOST_SIGNS);
            System.arraycopy(from.sender, 0, sender, 0, MOST_SIGNS);
            System.arraycopy(from.delay, 0, delay, 0, MOST_GUARDS * MOST_SIGNS);
        }

        boolean isFull(int kind) {
            switch (kind) {
                case GUARD_CLAUSE:
                    return guards >= MOST_GUARDS;
                case SIGN_CLAUSE:
                    return signs >= MOST_SIGNS;
                case HEARING_CLAUSE:
                    return hearings >= MOST_HEARINGS;
                default:
                    return treasuries >= 1;
            }
        }

        /** A CLAUSE more, with the values of its ITEMS in their order. */
        void take(int kind, int[] value) {
            if (isFull(kind)) {
                return;
            }
            if (kind == GUARD_CLAUSE) {
                prize[guards] = value[0];
                trying[guards] = value[1];
                guards++;
            } else if (kind == SIGN_CLAUSE) {
                parts[signs] = value[0];
                error[signs] = value[1];
                behind[signs] = value[2];
                sender[signs] = value[3];
                signs++;
            } else if (kind == HEARING_CLAUSE) {
                int place = value[1] * MOST_SIGNS + value[0];
                hasTwins |= delay[place] != UNHEARD;
                delay[place] = value[2];
                hearings++;
            } else {
                need = value[0];
                breath = value[1];
                treasuries++;
            }
        }

        /** Whether all is told that a LAND must have, and all that it names. */
        boolean isWhole() {
            if (guards < 2 || signs < 1 || hasTwins) {
                return false;
            }
            for (int sign = 0; sign < signs; sign++) {
                if (behind[sign] >= 0 && sender[sign] >= guards) {
                    return false;
                }
            }
            for (int place = 0; place < delay.length; place++) {
                boolean isTold = place / MOST_SIGNS < guards && place % MOST_SIGNS < signs;
                if (!isTold && delay[place] != UNHEARD) {
                    return false;
                }
            }
            return true;
        }

        int allWays() {
            int all = 1;
            for (int sign = 0; sign < signs; sign++) {
                all *= 2 * error[sign] + 1;
            }
            return all;
        }

        /** The SIGNS that a GUARD hears, as bits. */
        int heardBy(int guard) {
            int bits = 0;
            for (int sign = 0; sign < signs; sign++) {
                if (delay[guard * MOST_SIGNS + sign] != UNHEARD) {
                    bits |= 1 << sign;
                }
            }
            return bits;
        }

        void makeDeaf(int guard) {
            for (int sign = 0; sign < MOST_SIGNS; sign++) {
                delay[guard * MOST_SIGNS + sign] = UNHEARD;
            }
        }

        /** Behind how many SIGNS one behind the other this one goes out. */
        int countAhead(int sign) {
            int found = 0;
            int at = behind[sign];
            for (int i = 0; i < MOST_SIGNS && at >= 0; i++) {
                found++;
                at = behind[at];
            }
            return found;
        }

        /** When a SIGN is there, by when those ahead of it are. */
        int timeOf(int sign, int[] at, int off) {
            int ahead = behind[sign];
            int start = ahead < 0 ? 0 : at[ahead] + delay[sender[sign] * MOST_SIGNS + ahead];
            boolean isNever = start >= NEVER || (lost >> sign & 1) != 0;
            return isNever ? NEVER : start + parts[sign] + off;
        }

        /** What a GUARD has of ways that OPEN and of others in which it is the first to turn. */
        int gainOf(int guard, int open, int first) {
            return prize[guard] * open + trying[guard] * first;
        }
    }

    /** Parts at which keys are turned, rising. */
    private static final class Row {
        final int[] time = new int[MOST_GUARDS];
        int size;
        /** The parts, none twice, at which one key more would OPEN it. */
        final int[] from = new int[MOST_GUARDS];
        final int[] to = new int[MOST_GUARDS];
        int spans;

        /** The turns of all GUARDS but these two (NONE: but none). */
        void gather(int[] turn, int guards, int one, int other) {
            size = 0;
            for (int guard = 0; guard < guards; guard++) {
                if (guard != one && guard != other) {
                    put(turn[guard]);
                }
            }
        }

        void copy(Row row) {
            size = row.size;
            for (int i = 0; i < size; i++) {
                time[i] = row.time[i];
            }
        }

        void put(int part) {
            if (part >= NEVER || size >= MOST_GUARDS) {
                return;
            }
            int i = size;
            for (; i > 0 && time[i - 1] > part; i--) {
                time[i] = time[i - 1];
            }
            time[i] = part;
            size++;
        }

        /** How far those nearest to one another are apart; NEVER: there are fewer. */
        int spread(int need) {
            int least = NEVER;
            for (int last = need - 1; last < size; last++) {
                least = Math.min(least, time[last] - time[last - need + 1]);
            }
            return least;
        }

        /** The first part by which so many are within a breath; NEVER: they never are. */
        int momentOf(int need, int breath) {
            for (int last = need - 1; last < size; last++) {
                if (time[last] - time[last - need + 1] <= breath) {
                    return time[last];
                }
            }
            return NEVER;
        }

        void findSpans(int need, int breath) {
            spans = 0;
            if (spread(need) <= breath) {
                // it OPENS without that key: whenever that is turned, and if it never is
                addSpan(-2 * NEVER, 4 * NEVER);
                return;
            }
            int done = -2 * NEVER;
            for (int first = 0; first + need - 2 < size; first++) {
                int last = first + need - 2;
                if (time[last] - time[first] <= breath) {
                    addSpan(Math.max(time[last] - breath, done + 1), time[first] + breath);
                    done = time[first] + breath;
                }
            }
        }

        private void addSpan(int least, int most) {
            if (spans < MOST_GUARDS) {
                from[spans] = least;
                to[spans] = most;
                spans++;
            }
        }
    }

    /**
     * A walk through all ways. OFFS of a SIGN that changes nothing are not walked: each way on the
     * walk then stands for so many as its weight says.
     */
    private static final class Walk {
        final Plans plans;
        Land land;
        int weight = 1;
        final int[] planOf = new int[MOST_GUARDS];
        final int[] uses = new int[MOST_GUARDS];
        final int[] reach = new int[MOST_SIGNS];
        final int[] off = new int[MOST_SIGNS];
        final int[] at = new int[MOST_SIGNS];
        final int[] turn = new int[MOST_GUARDS];
        final Row row = new Row();

        Walk(Plans plans, Land land) {
            this.plans = plans;
            this.land = land;
        }

        /** One way alone: by these OFFS. */
        void place(Land where, int[] plansOfGuards, int[] offs) {
            enter(where, plansOfGuards);
            for (int sign = 0; sign < land.signs; sign++) {
                off[sign] = offs[sign];
            }
            settle(0);
        }

        /** The first of all ways: how many there are to be walked. All asked SIGNS are. */
        int start(Land where, int[] plansOfGuards, int asked) {
            enter(where, plansOfGuards);
            settle(0);
            int needed = neededSigns(asked);
            int steps = 1;
            weight = 1;
            for (int sign = 0; sign < land.signs; sign++) {
                int offs = 2 * land.error[sign] + 1;
                boolean isWalked = (needed >> sign & 1) != 0;
                reach[sign] = isWalked ? land.error[sign] : 0;
                off[sign] = -reach[sign];
                steps *= isWalked ? offs : 1;
                weight *= isWalked ? 1 : offs;
            }
            settle(0);
            return steps;
        }

        /** The next way; behind the last one the first again. */
        void step() {
            int sign = land.signs - 1;
            for (; sign > 0 && off[sign] == reach[sign]; sign--) {
                off[sign] = -reach[sign];
            }
            if (sign >= 0) {
                off[sign] = off[sign] == reach[sign] ? -reach[sign] : off[sign] + 1;
                settle(sign);
            }
        }

        boolean isOpen() {
            row.gather(turn, land.guards, NONE, NONE);
            return row.spread(land.need) <= land.breath;
        }

        boolean isOpenBy(int set) {
            row.size = 0;
            for (int guard = 0; guard < land.guards; guard++) {
                if ((set >> guard & 1) != 0) {
                    row.put(turn[guard]);
                }
            }
            return row.spread(land.need) <= land.breath;
        }

        /** In how many of all ways it OPENS. */
        int tally(Land where, int[] plansOfGuards) {
            int steps = start(where, plansOfGuards, 0);
            int ways = 0;
            for (int i = 0; i < steps; i++) {
                if (isOpen()) {
                    ways += weight;
                }
                step();
            }
            return ways;
        }

        /** When a GUARD hears a SIGN; NEVER or more: it does not. */
        int hearing(int guard, int sign) {
            return at[sign] + land.delay[guard * MOST_SIGNS + sign];
        }

        /** The OFFS of a SIGN in this way, as bits: all of them if they are not walked. */
        int offBits(int sign) {
            int bits = 0;
            int error = reach[sign] > 0 ? 0 : land.error[sign];
            for (int i = -error; i <= error; i++) {
                bits |= 1 << off[sign] + i + MOST_ERROR;
            }
            return bits;
        }

        private void enter(Land where, int[] plansOfGuards) {
            land = where;
            for (int guard = 0; guard < land.guards; guard++) {
                planOf[guard] = plansOfGuards[guard];
                uses[guard] = plans.lettersOf(planOf[guard]) & land.heardBy(guard);
                turn[guard] = NEVER;
            }
            for (int sign = 0; sign < MOST_SIGNS; sign++) {
                off[sign] = 0;
                at[sign] = NEVER;
            }
        }

        /** The SIGNS asked or turned by that are ever there, and those ahead of them. */
        private int neededSigns(int asked) {
            int needed = asked;
            for (int guard = 0; guard < land.guards; guard++) {
                needed |= uses[guard];
            }
            int found = 0;
            for (int sign = land.signs - 1; sign >= 0; sign--) {
                if ((needed >> sign & 1) != 0 && at[sign] < NEVER) {
                    found |= 1 << sign;
                    needed |= land.behind[sign] < 0 ? 0 : 1 << land.behind[sign];
                }
            }
            return found;
        }

        /** SIGNS go out behind lower ones alone: so those below the lowest new OFF are as they were. */
        private void settle(int lowest) {
            for (int sign = lowest; sign < land.signs; sign++) {
                at[sign] = land.timeOf(sign, at, off[sign]);
            }
            for (int guard = 0; guard < land.guards; guard++) {
                if (uses[guard] >> lowest != 0) {
                    turn[guard] = plans.turnOf(planOf[guard], at, land.delay, guard * MOST_SIGNS);
                }
            }
        }
    }

    /** What one walk tells of the LAND with the PLANS of its GUARDS. */
    private static final class Survey {
        boolean isFresh;
        boolean hasSets;
        int ways;
        final int[] earliest = new int[MOST_GUARDS];
        final int[] latest = new int[MOST_GUARDS];
        final int[] never = new int[MOST_GUARDS];
        /** Of ways in which it does not OPEN: in how many a GUARD is the first to turn. */
        final int[] first = new int[MOST_GUARDS];
        int leastSpread;
        int mostSpread;
        boolean someTooFew;
        int earliestMoment;
        int latestMoment;
        int momentSum;
        private int sets;

        void take(Walk walk, Land land, int[] planOf) {
            clear();
            int steps = walk.start(land, planOf, 0);
            for (int i = 0; i < steps; i++) {
                seeTurns(walk);
                walk.row.gather(walk.turn, land.guards, NONE, NONE);
                seeSpread(walk.row.spread(land.need));
                int moment = walk.row.momentOf(land.need, land.breath);
                if (moment < NEVER) {
                    seeMoment(moment, walk.weight);
                } else {
                    seeFirst(walk);
                }
                walk.step();
            }
            isFresh = true;
        }

        /** The sets of GUARDS, each a bit, by which alone it OPENS in all ways. */
        int openSets(Walk walk, Land land, int[] planOf) {
            if (hasSets) {
                return sets;
            }
            int most = 1 << land.guards;
            int steps = walk.start(land, planOf, 0);
            sets = (1 << most) - 2;
            for (int i = 0; i < steps && sets != 0; i++) {
                for (int set = 1; set < most; set++) {
                    if ((sets >> set & 1) != 0 && !walk.isOpenBy(set)) {
                        sets &= ~(1 << set);
                    }
                }
                walk.step();
            }
            hasSets = true;
            return sets;
        }

        private void clear() {
            ways = 0;
            for (int guard = 0; guard < MOST_GUARDS; guard++) {
                earliest[guard] = NEVER;
                latest[guard] = NEVER;
                never[guard] = 0;
                first[guard] = 0;
            }
            leastSpread = NEVER;
            mostSpread = 0;
            someTooFew = false;
            earliestMoment = NEVER;
            latestMoment = -NEVER;
            momentSum = 0;
        }

        private void seeTurns(Walk walk) {
            for (int guard = 0; guard < walk.land.guards; guard++) {
                int part = walk.turn[guard];
                if (part >= NEVER) {
                    never[guard] += walk.weight;
                } else {
                    boolean isNew = earliest[guard] >= NEVER;
                    earliest[guard] = isNew ? part : Math.min(earliest[guard], part);
                    latest[guard] = isNew ? part : Math.max(latest[guard], part);
                }
            }
        }

        private void seeSpread(int spread) {
            if (spread >= NEVER) {
                someTooFew = true;
            } else {
                leastSpread = Math.min(leastSpread, spread);
                mostSpread = Math.max(mostSpread, spread);
            }
        }

        private void seeMoment(int moment, int weight) {
            ways += weight;
            earliestMoment = Math.min(earliestMoment, moment);
            latestMoment = Math.max(latestMoment, moment);
            momentSum += moment * weight;
        }

        private void seeFirst(Walk walk) {
            int found = NONE;
            int part = NEVER;
            for (int guard = 0; guard < walk.land.guards; guard++) {
                if (walk.turn[guard] < part) {
                    part = walk.turn[guard];
                    found = guard;
                }
            }
            if (found >= 0) {
                first[found] += walk.weight;
            }
        }
    }

    /** Another turn tried for one GUARD: in how many ways it OPENS with each. */
    private static final class Solo {
        private final int[] open = new int[MOST_SIMPLE];
        private final Row others = new Row();

        /** SIMPLE plans by what the GUARD hears, a THIEF's by the SIGNS as they are. */
        void trySimple(Walk walk, Land land, int[] planOf, int guard, boolean isThief) {
            clear();
            int asked = isThief ? (1 << land.signs) - 1 : land.heardBy(guard);
            int steps = walk.start(land, planOf, asked);
            for (int i = 0; i < steps; i++) {
                findSpans(walk, guard);
                for (int sign = 0; sign < land.signs; sign++) {
                    int base = isThief ? walk.at[sign] : walk.hearing(guard, sign);
                    addOpen(sign * NUMBERS, base, walk.weight);
                }
                walk.step();
            }
        }

        /** The GUARD's own PLAN, by each number later. */
        void tryWaiting(Walk walk, Land land, int[] planOf, int guard) {
            clear();
            int steps = walk.start(land, planOf, 0);
            for (int i = 0; i < steps; i++) {
                findSpans(walk, guard);
                addOpen(0, walk.turn[guard], walk.weight);
                walk.step();
            }
        }

        /** Of the first so many tried: the lowest with most ways (0), in how many (1). */
        int answer(int tried, int what) {
            int best = 0;
            for (int i = 1; i < tried && i < MOST_SIMPLE; i++) {
                if (open[i] > open[best]) {
                    best = i;
                }
            }
            return what == 0 ? best : open[best];
        }

        private void clear() {
            for (int i = 0; i < MOST_SIMPLE; i++) {
                open[i] = 0;
            }
        }

        private void findSpans(Walk walk, int guard) {
            others.gather(walk.turn, walk.land.guards, guard, NONE);
            others.findSpans(walk.land.need, walk.land.breath);
        }

        private void addOpen(int start, int base, int weight) {
            for (int i = 0; i < others.spans; i++) {
                Duel.addSpan(open, start, others.from[i] - base, others.to[i] - base, weight);
            }
        }
    }

    /** All pairs of SIMPLE plans of two GUARDS, the first one's in rows: what comes of each. */
    private static final class Duel {
        boolean isFresh;
        int one;
        int other;
        final int[] open = new int[MOST_SIMPLE * MOST_SIMPLE];
        /** Of ways in which it does not OPEN: in how many the one, the other is the first to turn. */
        private final int[] oneFirst = new int[MOST_SIMPLE * MOST_SIMPLE];
        private final int[] otherFirst = new int[MOST_SIMPLE * MOST_SIMPLE];
        private final int[] mostOfOne = new int[MOST_SIMPLE];
        private final int[] mostOfOther = new int[MOST_SIMPLE];
        private final Row others = new Row();
        private final Row row = new Row();
        private int simple;
        private int firstGuard;
        private int firstPart;

        void fill(Walk walk, Land land, int[] planOf, int guard, int second) {
            one = guard;
            other = second;
            simple = land.signs * NUMBERS;
            for (int i = 0; i < open.length; i++) {
                open[i] = 0;
                oneFirst[i] = 0;
                otherFirst[i] = 0;
            }
            int steps = walk.start(land, planOf, land.heardBy(one) | land.heardBy(other));
            for (int i = 0; i < steps; i++) {
                others.gather(walk.turn, land.guards, one, other);
                for (int plan = 0; plan < simple; plan++) {
                    tryPlan(walk, plan);
                }
                walk.step();
            }
            isFresh = true;
        }

        /** The lowest pair with most ways. */
        int mostOpen() {
            int best = 0;
            for (int plan = 0; plan < simple; plan++) {
                for (int second = 0; second < simple; second++) {
                    if (open[plan * MOST_SIMPLE + second] > open[best]) {
                        best = plan * MOST_SIMPLE + second;
                    }
                }
            }
            return best;
        }

        /** The pair as it is told: 100 times the first one's and the other's. */
        int codeOf(int place) {
            return place / MOST_SIMPLE * 100 + place % MOST_SIMPLE;
        }

        int countOpenIn(int ways) {
            int found = 0;
            for (int plan = 0; plan < simple; plan++) {
                for (int second = 0; second < simple; second++) {
                    if (open[plan * MOST_SIMPLE + second] == ways) {
                        found++;
                    }
                }
            }
            return found;
        }

        /** The i-th pair by which neither has more alone (NONE: there are fewer); of i NONE how many. */
        int findRest(Land land, int i) {
            findMosts(land);
            int found = 0;
            for (int plan = 0; plan < simple; plan++) {
                for (int second = 0; second < simple; second++) {
                    int place = plan * MOST_SIMPLE + second;
                    if (gainOfOne(land, place) == mostOfOne[second]
                            && gainOfOther(land, place) == mostOfOther[plan]) {
                        if (found == i) {
                            return codeOf(place);
                        }
                        found++;
                    }
                }
            }
            return i == NONE ? found : NONE;
        }

        /** Adds to the numbers from least to most, as far as there are such. */
        static void addSpan(int[] row, int start, int least, int most, int by) {
            int last = Math.min(most, NUMBERS - 1);
            for (int number = Math.max(least, 0); number <= last; number++) {
                row[start + number] += by;
            }
        }

        private void findMosts(Land land) {
            for (int i = 0; i < MOST_SIMPLE; i++) {
                mostOfOne[i] = 0;
                mostOfOther[i] = 0;
            }
            for (int plan = 0; plan < simple; plan++) {
                for (int second = 0; second < simple; second++) {
                    int place = plan * MOST_SIMPLE + second;
                    mostOfOne[second] = Math.max(mostOfOne[second], gainOfOne(land, place));
                    mostOfOther[plan] = Math.max(mostOfOther[plan], gainOfOther(land, place));
                }
            }
        }

        private int gainOfOne(Land land, int place) {
            return land.gainOf(one, open[place], oneFirst[place]);
        }

        private int gainOfOther(Land land, int place) {
            return land.gainOf(other, open[place], otherFirst[place]);
        }

        /** A plan of the one, against all of the other, in one way. */
        private void tryPlan(Walk walk, int plan) {
            int part = Math.min(walk.hearing(one, plan / NUMBERS) + plan % NUMBERS, NEVER);
            row.copy(others);
            row.put(part);
            row.findSpans(walk.land.need, walk.land.breath);
            findFirst(walk, part);
            // the other one is the first up to this part, if it turns at all
            int ahead = firstGuard > other ? firstPart : firstPart - 1;
            for (int sign = 0; sign < walk.land.signs; sign++) {
                int start = plan * MOST_SIMPLE + sign * NUMBERS;
                addWay(start, walk.hearing(other, sign), ahead, walk.weight);
            }
        }

        /** Who turns first if the other one never does; nobody: NONE and NEVER. */
        private void findFirst(Walk walk, int partOfOne) {
            firstGuard = NONE;
            firstPart = NEVER;
            for (int guard = 0; guard < walk.land.guards; guard++) {
                int part = guard == one ? partOfOne : walk.turn[guard];
                if (guard != other && part < firstPart) {
                    firstGuard = guard;
                    firstPart = part;
                }
            }
        }

        /** All as if it never OPENED, and then less where it does. */
        private void addWay(int start, int base, int ahead, int weight) {
            boolean isOneNext = firstGuard == one;
            addSpan(otherFirst, start, -NEVER, ahead - base, weight);
            if (isOneNext) {
                addSpan(oneFirst, start, ahead + 1 - base, NEVER, weight);
            }
            for (int i = 0; i < row.spans; i++) {
                int least = row.from[i] - base;
                int most = row.to[i] - base;
                addSpan(open, start, least, most, weight);
                addSpan(otherFirst, start, least, Math.min(most, ahead - base), -weight);
                if (isOneNext) {
                    addSpan(oneFirst, start, Math.max(least, ahead + 1 - base), most, -weight);
                }
            }
        }
    }

    /** What an IMAGE keeps: PLANS of GUARDS, SCRATCHES, NIGHTS, draws. */
    private static final class Book {
        private static final long TIMES = 6364136223846793005L;
        private static final long MORE = 1442695040888963407L;

        final int[] planOf = {NONE, NONE, NONE, NONE};
        int scratches;
        private final int[] scratchGuard = new int[MOST_SCRATCHES];
        private final int[] scratchSign = new int[MOST_SCRATCHES];
        private final int[] scratchPart = new int[MOST_SCRATCHES];
        int nights;
        final int[] turned = new int[MOST_NIGHTS * MOST_GUARDS];
        final int[] opened = new int[MOST_NIGHTS];
        private final long[] drawsAhead = new long[MOST_NIGHTS];
        long draws;

        void copy(Book from) {
            System.arraycopy(from.planOf, 0, planOf, 0, MOST_GUARDS);
            scratches = from.scratches;
            System.arraycopy(from.scratchGuard, 0, scratchGuard, 0, MOST_SCRATCHES);
            System.arraycopy(from.scratchSign, 0, scratchSign, 0, MOST_SCRATCHES);
            System.arraycopy(from.scratchPart, 0, scratchPart, 0, MOST_SCRATCHES);
            nights = from.nights;
            System.arraycopy(from.turned, 0, turned, 0, MOST_NIGHTS * MOST_GUARDS);
            System.arraycopy(from.opened, 0, opened, 0, MOST_NIGHTS);
            System.arraycopy(from.drawsAhead, 0, drawsAhead, 0, MOST_NIGHTS);
            draws = from.draws;
        }

        /** Another LAND comes: draws alone stay. */
        void leaveLand() {
            for (int guard = 0; guard < MOST_GUARDS; guard++) {
                planOf[guard] = NONE;
            }
            scratches = 0;
            nights = 0;
        }

        void addScratch(int guard, int sign, int part) {
            if (scratches < MOST_SCRATCHES) {
                scratchGuard[scratches] = guard;
                scratchSign[scratches] = sign;
                scratchPart[scratches] = part;
                scratches++;
            }
        }

        /** The SIGNS of which SCRATCHES tell that they were heard, as bits. */
        int scratchedSigns() {
            int bits = 0;
            for (int i = 0; i < scratches; i++) {
                bits |= scratchSign[i] < 0 ? 0 : 1 << scratchSign[i];
            }
            return bits;
        }

        /** The SCRATCHES that are not so in this way, as bits. */
        int unlike(Walk walk) {
            int bits = 0;
            for (int i = 0; i < scratches; i++) {
                int guard = scratchGuard[i];
                int part = scratchSign[i] < 0 ? walk.turn[guard] : walk.hearing(guard, scratchSign[i]);
                if (part != scratchPart[i]) {
                    bits |= 1 << i;
                }
            }
            return bits;
        }

        /** A draw of so many, which are one at least. */
        int draw(int many) {
            draws = draws * TIMES + MORE;
            return many < 1 ? 0 : (int) ((draws >>> 33) % many);
        }

        int addNight(long ahead, int[] turn, int open) {
            if (nights < MOST_NIGHTS) {
                System.arraycopy(turn, 0, turned, nights * MOST_GUARDS, MOST_GUARDS);
                opened[nights] = open;
                drawsAhead[nights] = ahead;
                nights++;
            }
            return open;
        }

        /** How many are left. */
        int dropNight() {
            if (nights > 0) {
                nights--;
                draws = drawsAhead[nights];
            }
            return nights;
        }

        int countOpened() {
            int found = 0;
            for (int night = 0; night < nights; night++) {
                found += opened[night];
            }
            return found;
        }
    }
}
