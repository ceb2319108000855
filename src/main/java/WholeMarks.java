/**
 * Towns with unlike measures, and cloth that may be cut only where their marks meet.
 *
 * <p>Every row is made in a constructor and used again, so that calls make no objects. Indices and
 * divisors go through {@link Numbers}, which tests them, so that no call can throw.
 */
public final class WholeMarks {
    public static final int BAD = -1, NOT = -2, FULL = -3, NONE = -4, NULL = -11, CAST = -12, INDEX = -13, SIZE = -14;

    private static final int TOWNS = 3, ALL_TOWNS = 7, LAW_TWO = 1, MEASURE_MOST = 999;
    private static final int BOLTS = 8, LENGTH_MOST = 99999, SEAM_MOST = 99;
    private static final int BUYERS = 6, WANTS_MOST = 9999, SHARE_MOST = 9999999;
    private static final int COINS = 4, RATE_MOST = 99, CHANGES_MOST = 5, CHANGED_MOST = 999999;
    private static final int PLACE_MOST = 999999, THIRD_MOST = 99, WORN_MOST = 9, MARK_MOST = 9999;
    private static final long PLACES_MOST = 1000000000000000L;
    private static final int TAPE_MOST = 40, BLANK = 32, LAST_SIGN = 126, FAULT = -20;
    private static final int SHEETS = 4, ITEMS_MOST = 16, LANES = 3, SHORTS = 0, INTS = 1;
    private static final int FIT_LEAST = 2, FIT_MOST = 60, FIT_LENGTHS = 8, FIT_LENGTH_MOST = 999999;

    private static final Cloth[] CLOTHS = Cloth.values();

    private final Market market = new Market();
    private final Market kept = new Market();
    private boolean hasImage;
    private final Tape tape = new Tape();
    private final Sheet[] sheets = new Sheet[SHEETS];
    private final Marks marks = new Marks();
    private final Groups groups = new Groups();

    public WholeMarks() {
        for (int s = 0; s < sheets.length; s++) {
            sheets[s] = new Sheet();
        }
    }

    // ---- 1 towns, bolts

    public int measure(int town, int v) {
        if (!within(town, 0, TOWNS - 1) || !within(v, 1, MEASURE_MOST)) {
            return BAD;
        }
        int was = Numbers.at(market.towns.measures, town);
        Numbers.put(market.towns.measures, town, v);
        return was;
    }

    public int rule(int set, int law) {
        boolean enough = within(set, 1, ALL_TOWNS) && Integer.bitCount(set) >= 2;
        if (!enough || !within(law, 0, LAW_TWO)) {
            return BAD;
        }
        int was = 10 * market.towns.counting + market.towns.law;
        market.towns.counting = set;
        market.towns.law = law;
        return was;
    }

    public int seam(int v) {
        if (!within(v, 0, SEAM_MOST)) {
            return BAD;
        }
        int was = market.bolts.seamInches;
        market.bolts.seamInches = v;
        return was;
    }

    public long place(int i) {
        if (!within(i, 1, PLACE_MOST)) {
            return BAD;
        }
        return marksNow().nth(i);
    }

    public long places(long length) {
        if (length < 0 || length > PLACES_MOST) {
            return BAD;
        }
        return marksNow().howManyTo(length);
    }

    public int bolt(int cloth, int length) {
        if (!isCloth(cloth) || !within(length, 1, LENGTH_MOST)) {
            return BAD;
        }
        return market.bolts.held >= BOLTS ? FULL : market.bolts.add(cloth, length);
    }

    public int told(int bolt, int what) {
        Bolts bolts = market.bolts;
        if (!bolts.has(bolt) || !within(what, 0, 2)) {
            return BAD;
        }
        if (what == 0) {
            return Numbers.at(bolts.cloths, bolt);
        }
        int length = Numbers.at(bolts.lengths, bolt);
        return what == 1 ? length : (int) marksNow().lastTo(length);
    }

    public int cut(int bolt, int length) {
        Bolts bolts = market.bolts;
        if (!bolts.has(bolt)) {
            return BAD;
        }
        if (length > Numbers.at(bolts.lengths, bolt) || !marksNow().areMetAt(length)) {
            return NOT;
        }
        return bolts.sell(bolt, length);
    }

    public int join(int a, int b) {
        Bolts bolts = market.bolts;
        if (!bolts.has(a) || !bolts.has(b) || a == b) {
            return BAD;
        }
        if (!bolts.canBeSewn(a, b)) {
            return NOT;
        }
        int length = bolts.lengthOfAll(1 << a | 1 << b, Numbers.at(bolts.cloths, a));
        if (length > LENGTH_MOST) {
            return FULL;
        }
        bolts.sew(a, b, length);
        return length;
    }

    public int type(long w, int n) {
        if (!within(n, 1, 8)) {
            return BAD;
        }
        for (int i = 0; i < n; i++) {
            if (!within(byteOf(w, i), BLANK, LAST_SIGN)) {
                return BAD;
            }
        }
        if (n > TAPE_MOST - tape.length) {
            return FULL;
        }
        for (int i = n - 1; i >= 0; i--) {
            tape.add(byteOf(w, i));
        }
        return tape.length;
    }

    public int towns() {
        int counting = tape.read();
        if (counting > 0) {
            market.towns.take(tape);
        }
        tape.length = 0;
        return counting;
    }

    public int count(int what) {
        switch (what) {
            case 0: return market.bolts.held;
            case 1: return market.bolts.inches();
            case 2: return market.bolts.sold;
            case 3: return market.buyers.held;
            case 4: return market.buyers.wantedBy(market.buyers.everyone());
            case 5: return market.bolts.waste(marksNow());
            default: return BAD;
        }
    }

    // ---- 2 most, parties

    public int most(int cloth, int i) {
        if (!isCloth(cloth) || !within(i, -1, BOLTS - 1)) {
            return BAD;
        }
        groupBolts(cloth);
        if (i == -1) {
            return (int) groups.worth;
        }
        return i < groups.size ? Numbers.at(groups.row, i) : NONE;
    }

    public int buyer(int wants) {
        if (!within(wants, 1, WANTS_MOST)) {
            return BAD;
        }
        return market.buyers.held >= BUYERS ? FULL : market.buyers.add(wants);
    }

    public int home() {
        int went = market.buyers.held;
        market.buyers.held = 0;
        return went;
    }

    public long price(int set) {
        if (!within(set, 1, market.buyers.everyone())) {
            return BAD;
        }
        return priceOf(marksNow(), set);
    }

    public long parties(int k, int i) {
        if (!within(k, 1, BUYERS) || !within(i, -1, BUYERS - 1)) {
            return BAD;
        }
        if (i >= market.buyers.held || market.buyers.held == 0) {
            return NONE;
        }
        groupBuyers(k);
        return i == -1 ? -groups.worth : Numbers.at(groups.row, i);
    }

    // ---- 3 measures, coins

    public int third(int what) {
        if (!within(what, 0, 1)) {
            return BAD;
        }
        int[] measures = market.towns.measures;
        int best = 0;
        int least = 0;
        for (int v = 1; v <= THIRD_MOST; v++) {
            marks.meetTwoOfThree(Numbers.at(measures, 0), Numbers.at(measures, 1), v);
            int waste = market.bolts.waste(marks);
            if (best == 0 || waste < least) {
                least = waste;
                best = v;
            }
        }
        return what == 0 ? best : least;
    }

    public int worn(int s) {
        int[] measures = market.towns.measures;
        int first = Numbers.at(measures, 0);
        int second = Numbers.at(measures, 1);
        if (!within(s, 0, WORN_MOST) || s >= first || s >= second) {
            return BAD;
        }
        for (int j = 1; j <= MARK_MOST; j++) {
            // the least mark of the second town that can be as far as the first one's least length
            int other = (int) Numbers.quotient(j * (first - s) + second - 1, second);
            if (other * (second - s) <= j * first) {
                return j;
            }
        }
        return NONE;
    }

    public int rate(int from, int to, int above, int below) {
        boolean coins = within(from, 0, COINS - 1) && within(to, 0, COINS - 1) && from != to;
        if (!coins || !within(above, 1, RATE_MOST) || !within(below, 1, RATE_MOST)) {
            return BAD;
        }
        return market.coins.agree(from, to, above, below);
    }

    public int rings(int what) {
        if (!within(what, 0, 1)) {
            return BAD;
        }
        int many = 0;
        int first = NONE;
        for (int size = 2; size <= COINS; size++) {
            for (int code = 0; code < 1 << 2 * size; code++) {
                if (market.coins.isRing(code, size) && market.coins.gains(code, size)) {
                    first = many == 0 ? market.coins.named(code, size) : first;
                    many++;
                }
            }
        }
        return what == 0 ? many : first;
    }

    public long turn(int coin, int n, int k, int i) {
        boolean held = within(coin, 0, COINS - 1) && within(n, 0, CHANGED_MOST);
        if (!held || !within(k, 1, CHANGES_MOST) || !within(i, -1, k - 1)) {
            return BAD;
        }
        long most = NONE;
        int best = 0;
        // every row that ends with this coin
        for (int code = coin; code < 1 << 2 * k; code += COINS) {
            long there = market.coins.changed(coin, n, code, k);
            if (there > most) {
                most = there;
                best = code;
            }
        }
        return i == -1 || most < 0 ? most : Coins.digit(best, k, i);
    }

    public int image() {
        kept.becomeLike(market);
        hasImage = true;
        return 1;
    }

    public int restore() {
        if (!hasImage) {
            return NONE;
        }
        market.becomeLike(kept);
        return 1;
    }

    // ---- 4 sheets

    public int leaves(int sheet, int lane, int i) {
        int held = market.buyers.held;
        int refused = refusal(sheet, lane, i, held);
        if (refused < 0) {
            return refused;
        }
        Sheet shares = sheetOf(sheet);
        if (held == 0 || shares == null || !shares.allWithin(i, held, 0, SHARE_MOST)) {
            return NOT;
        }
        Marks now = marksNow();
        for (int set = 1; set <= market.buyers.everyone(); set++) {
            if (shares.sumOf(i, set) > priceOf(now, set)) {
                return set;
            }
        }
        return NONE;
    }

    public int fit(int sheet, int lane, int i, int n, int what) {
        if (!within(n, 1, FIT_LENGTHS) || !within(what, 0, 1)) {
            return BAD;
        }
        int refused = refusal(sheet, lane, i, n);
        if (refused < 0) {
            return refused;
        }
        Sheet lengths = sheetOf(sheet);
        if (lengths == null || !lengths.allWithin(i, n, 1, FIT_LENGTH_MOST)) {
            return NOT;
        }
        // what divides all lengths divides their greatest common divisor, and only that does
        long common = lengths.commonOf(i, n);
        return what == 0 ? howManyFit(common) : bestFit(common);
    }

    public int film(int sheet, int lane, int i) {
        int held = market.bolts.held;
        int refused = refusal(sheet, lane, i, held);
        if (refused < 0) {
            return refused;
        }
        Sheet row = sheetOf(sheet);
        for (int b = 0; b < held && row != null; b++) {
            row.write(i + b, Numbers.at(market.bolts.lengths, b));
        }
        return held;
    }

    public int sheet(int sheet, int lane, int n) {
        Sheet row = sheetOf(sheet);
        if (row == null || !within(lane, 0, LANES - 1) || n > ITEMS_MOST) {
            return BAD;
        }
        if (n < 0) {
            return SIZE;
        }
        row.begin(lane, n);
        return n;
    }

    public int drop(int sheet) {
        Sheet row = sheetOf(sheet);
        if (row == null) {
            return BAD;
        }
        if (!row.isThere) {
            return NULL;
        }
        row.isThere = false;
        return row.length;
    }

    public int item(int sheet, int lane, int i, long v) {
        int refused = refusal(sheet, lane, i, 1);
        if (refused < 0) {
            return refused;
        }
        Sheet row = sheetOf(sheet);
        if (row != null) {
            row.write(i, v);
        }
        return 1;
    }

    public int copy(int from, int i, int to, int j, int n) {
        Sheet source = sheetOf(from);
        Sheet target = sheetOf(to);
        if (source == null || target == null) {
            return BAD;
        }
        if (!source.isThere || !target.isThere) {
            return NULL;
        }
        if (source.lane != target.lane) {
            return CAST;
        }
        if (!source.spans(i, n) || !target.spans(j, n)) {
            return INDEX;
        }
        System.arraycopy(source.items, i, target.items, j, n);
        return n;
    }

    // ---- what several calls need

    private static boolean within(int v, int least, int most) {
        return v >= least && v <= most;
    }

    private static boolean isCloth(int cloth) {
        return within(cloth, 0, CLOTHS.length - 1);
    }

    /** A byte of w, 0 being its lowest. */
    private static int byteOf(long w, int i) {
        return (int) (w >>> 8 * i) & 0xFF;
    }

    /** The marks of the towns as they are now: laid anew, so that they can't be out of date. */
    private Marks marksNow() {
        market.towns.lay(marks);
        return marks;
    }

    private long priceOf(Marks now, int party) {
        return now.firstFrom(market.buyers.wantedBy(party));
    }

    private void groupBolts(int cloth) {
        Marks now = marksNow();
        int bolts = market.bolts.pick(cloth);
        for (int set = 1; set < 1 << bolts; set++) {
            int length = market.bolts.lengthOfPicked(set, cloth);
            groups.setWorth(set, now.lastTo(length));
        }
        groups.solve(bolts, BOLTS);
    }

    private void groupBuyers(int partyMost) {
        Marks now = marksNow();
        for (int set = 1; set <= market.buyers.everyone(); set++) {
            groups.setWorth(set, -priceOf(now, set));
        }
        groups.solve(market.buyers.held, partyMost);
    }

    private Sheet sheetOf(int s) {
        return s >= 0 && s < sheets.length ? sheets[s] : null;
    }

    /** Why n items from i on can't be taken of a sheet as a row of a lane; 0, if they can. */
    private int refusal(int sheet, int lane, int i, int n) {
        Sheet row = sheetOf(sheet);
        if (row == null || !within(lane, 0, LANES - 1)) {
            return BAD;
        }
        if (!row.isThere) {
            return NULL;
        }
        if (row.lane != lane) {
            return CAST;
        }
        return row.spans(i, n) ? 0 : INDEX;
    }

    private static int howManyFit(long common) {
        int divisors = 0;
        for (int v = FIT_LEAST; v <= FIT_MOST; v++) {
            if (Numbers.divides(v, common)) {
                divisors++;
            }
        }
        return divisors * (divisors - 1) / 2;
    }

    private static int bestFit(long common) {
        int best = NONE;
        long greatest = 0;
        for (int a = FIT_LEAST; a < FIT_MOST; a++) {
            if (!Numbers.divides(a, common)) {
                continue;
            }
            for (int b = a + 1; b <= FIT_MOST; b++) {
                long met = Numbers.leastCommon(a, b);
                if (Numbers.divides(b, common) && met > greatest) {
                    greatest = met;
                    best = 100 * a + b;
                }
            }
        }
        return best;
    }

    /** Arithmetic and rows that look before they divide or index. */
    private static final class Numbers {
        private static final int EUCLID_STEPS = 200;

        private Numbers() {
        }

        static int at(int[] row, int i) {
            return i >= 0 && i < row.length ? row[i] : 0;
        }

        static long at(long[] row, int i) {
            return i >= 0 && i < row.length ? row[i] : 0;
        }

        static void put(int[] row, int i, int v) {
            if (i >= 0 && i < row.length) {
                row[i] = v;
            }
        }

        static void put(long[] row, int i, long v) {
            if (i >= 0 && i < row.length) {
                row[i] = v;
            }
        }

        static void fill(int[] row, int[] from) {
            System.arraycopy(from, 0, row, 0, Math.min(from.length, row.length));
        }

        static long quotient(long above, long below) {
            return below == 0 ? 0 : above / below;
        }

        static boolean divides(long v, long of) {
            return v != 0 && of % v == 0;
        }

        static long greatestCommon(long a, long b) {
            long high = a;
            long low = b;
            for (int step = 0; step < EUCLID_STEPS && low != 0; step++) {
                long rest = high % low;
                high = low;
                low = rest;
            }
            return high;
        }

        static long leastCommon(long a, long b) {
            return quotient(a, greatestCommon(a, b)) * b;
        }
    }

    /** What a cloth loses by a cut, and whether a seam of it takes something; FELT is WOOL but for its seam. */
    private enum Cloth {
        LINEN(0, true), WOOL(1, true), SILK(0, false), FELT(1, false);

        final int lostByCut;
        final boolean losesBySeam;

        Cloth(int lostByCut, boolean losesBySeam) {
            this.lostByCut = lostByCut;
            this.losesBySeam = losesBySeam;
        }
    }

    /** All that an image keeps. */
    private static final class Market {
        final Towns towns = new Towns();
        final Bolts bolts = new Bolts();
        final Buyers buyers = new Buyers();
        final Coins coins = new Coins();

        void becomeLike(Market other) {
            towns.becomeLike(other.towns);
            bolts.becomeLike(other.bolts);
            buyers.becomeLike(other.buyers);
            coins.becomeLike(other.coins);
        }
    }

    private static final class Towns {
        final int[] measures = {36, 30, 45};
        int counting = 3;
        int law;

        void becomeLike(Towns other) {
            Numbers.fill(measures, other.measures);
            counting = other.counting;
            law = other.law;
        }

        void take(Tape tape) {
            Numbers.fill(measures, tape.measures);
            counting = tape.counting;
            law = tape.law;
        }

        void lay(Marks marks) {
            if (law == LAW_TWO && counting == ALL_TOWNS) {
                marks.meetTwoOfThree(Numbers.at(measures, 0), Numbers.at(measures, 1), Numbers.at(measures, 2));
                return;
            }
            // of two towns that count, two are all
            long step = 1;
            for (int town = 0; town < TOWNS; town++) {
                if ((counting >> town & 1) == 1) {
                    step = Numbers.leastCommon(step, Numbers.at(measures, town));
                }
            }
            marks.meetEvery(step);
        }
    }

    /** Where marks meet: at the multiples of one step, or of any of three. */
    private static final class Marks {
        private static final int HALVINGS = 64;
        private static final long BEYOND_ALL = 1L << 62;

        private final long[] steps = new long[TOWNS];
        private int kinds;
        private long allMeet;

        void meetEvery(long step) {
            Numbers.put(steps, 0, step);
            kinds = 1;
            allMeet = step;
        }

        void meetTwoOfThree(int a, int b, int c) {
            Numbers.put(steps, 0, Numbers.leastCommon(a, b));
            Numbers.put(steps, 1, Numbers.leastCommon(a, c));
            Numbers.put(steps, 2, Numbers.leastCommon(b, c));
            kinds = TOWNS;
            allMeet = Numbers.leastCommon(Numbers.at(steps, 0), c);
        }

        long howManyTo(long length) {
            long many = 0;
            for (int s = 0; s < kinds; s++) {
                many += Numbers.quotient(length, Numbers.at(steps, s));
            }
            // two unlike steps have only the places where all meet in common: told kinds times, due once
            return many - (kinds - 1) * Numbers.quotient(length, allMeet);
        }

        long lastTo(long length) {
            long last = 0;
            for (int s = 0; s < kinds; s++) {
                long step = Numbers.at(steps, s);
                last = Math.max(last, Numbers.quotient(length, step) * step);
            }
            return last;
        }

        long firstFrom(long length) {
            long first = BEYOND_ALL;
            for (int s = 0; s < kinds; s++) {
                long step = Numbers.at(steps, s);
                first = Math.min(first, Numbers.quotient(length + step - 1, step) * step);
            }
            return first;
        }

        boolean areMetAt(long length) {
            return length > 0 && lastTo(length) == length;
        }

        long nth(int i) {
            long low = 1;
            long high = BEYOND_ALL;
            for (int s = 0; s < kinds; s++) {
                high = Math.min(high, i * Numbers.at(steps, s));
            }
            for (int halving = 0; halving < HALVINGS && low < high; halving++) {
                long middle = low + (high - low) / 2;
                if (howManyTo(middle) >= i) {
                    high = middle;
                } else {
                    low = middle + 1;
                }
            }
            return high;
        }
    }

    private static final class Bolts {
        final int[] cloths = new int[BOLTS];
        final int[] lengths = new int[BOLTS];
        final int[] picked = new int[BOLTS];
        int held;
        int sold;
        int seamInches = 2;

        void becomeLike(Bolts other) {
            Numbers.fill(cloths, other.cloths);
            Numbers.fill(lengths, other.lengths);
            held = other.held;
            sold = other.sold;
            seamInches = other.seamInches;
        }

        boolean has(int b) {
            return b >= 0 && b < held;
        }

        int add(int cloth, int length) {
            Numbers.put(cloths, held, cloth);
            Numbers.put(lengths, held, length);
            return held++;
        }

        int inches() {
            int all = 0;
            for (int b = 0; b < held; b++) {
                all += Numbers.at(lengths, b);
            }
            return all;
        }

        int waste(Marks marks) {
            int all = 0;
            for (int b = 0; b < held; b++) {
                int length = Numbers.at(lengths, b);
                all += length - (int) marks.lastTo(length);
            }
            return all;
        }

        int sell(int b, int inches) {
            int rest = Numbers.at(lengths, b) - inches;
            rest = Math.max(0, rest - clothOf(Numbers.at(cloths, b)).lostByCut);
            Numbers.put(lengths, b, rest);
            sold += inches;
            return rest;
        }

        boolean canBeSewn(int a, int b) {
            boolean alike = Numbers.at(cloths, a) == Numbers.at(cloths, b);
            return alike && Numbers.at(lengths, a) > 0 && Numbers.at(lengths, b) > 0;
        }

        void sew(int a, int b, int length) {
            Numbers.put(lengths, a, length);
            Numbers.put(lengths, b, 0);
        }

        /** Notes which bolts of a cloth are above 0. */
        int pick(int cloth) {
            int many = 0;
            for (int b = 0; b < held; b++) {
                if (Numbers.at(cloths, b) == cloth && Numbers.at(lengths, b) > 0) {
                    Numbers.put(picked, many, b);
                    many++;
                }
            }
            return many;
        }

        int lengthOfPicked(int set, int cloth) {
            int bolts = 0;
            for (int p = 0; p < BOLTS; p++) {
                if ((set >> p & 1) == 1) {
                    bolts |= 1 << Numbers.at(picked, p);
                }
            }
            return lengthOfAll(bolts, cloth);
        }

        /** How long a set of bolts of one cloth is, joined. */
        int lengthOfAll(int set, int cloth) {
            int seam = clothOf(cloth).losesBySeam ? seamInches : 0;
            int all = -seam * (Integer.bitCount(set) - 1);
            for (int b = 0; b < held; b++) {
                if ((set >> b & 1) == 1) {
                    all += Numbers.at(lengths, b);
                }
            }
            return Math.max(0, all);
        }

        private static Cloth clothOf(int cloth) {
            return cloth >= 0 && cloth < CLOTHS.length ? CLOTHS[cloth] : Cloth.LINEN;
        }
    }

    private static final class Buyers {
        final int[] wanted = new int[BUYERS];
        int held;

        void becomeLike(Buyers other) {
            Numbers.fill(wanted, other.wanted);
            held = other.held;
        }

        int add(int inches) {
            Numbers.put(wanted, held, inches);
            return held++;
        }

        int everyone() {
            return (1 << held) - 1;
        }

        int wantedBy(int set) {
            int all = 0;
            for (int b = 0; b < held; b++) {
                if ((set >> b & 1) == 1) {
                    all += Numbers.at(wanted, b);
                }
            }
            return all;
        }
    }

    /** Rates; a row of coins is a code of two bits a coin, so that codes rise as the rows do. */
    private static final class Coins {
        private final int[] above = new int[COINS * COINS];
        private final int[] below = new int[COINS * COINS];

        Coins() {
            for (int pair = 0; pair < COINS * COINS; pair++) {
                Numbers.put(above, pair, 1);
                Numbers.put(below, pair, 1);
            }
        }

        void becomeLike(Coins other) {
            Numbers.fill(above, other.above);
            Numbers.fill(below, other.below);
        }

        int agree(int from, int to, int newAbove, int newBelow) {
            int pair = COINS * from + to;
            int was = 100 * Numbers.at(above, pair) + Numbers.at(below, pair);
            Numbers.put(above, pair, newAbove);
            Numbers.put(below, pair, newBelow);
            return was;
        }

        static int digit(int code, int size, int i) {
            return code >> 2 * (size - 1 - i) & 3;
        }

        /** Unlike coins, the least ahead. */
        boolean isRing(int code, int size) {
            int seen = 0;
            for (int i = 0; i < size; i++) {
                int coin = digit(code, size, i);
                if ((seen >> coin & 1) == 1 || coin < digit(code, size, 0)) {
                    return false;
                }
                seen |= 1 << coin;
            }
            return true;
        }

        boolean gains(int code, int size) {
            long over = 1;
            long under = 1;
            int from = digit(code, size, size - 1);
            for (int i = 0; i < size; i++) {
                int to = digit(code, size, i);
                over *= Numbers.at(above, COINS * from + to);
                under *= Numbers.at(below, COINS * from + to);
                from = to;
            }
            return over > under;
        }

        int named(int code, int size) {
            int name = 0;
            for (int i = 0; i < size; i++) {
                name = 10 * name + digit(code, size, i) + 1;
            }
            return name;
        }

        /** What n of a coin becomes along a row; NONE, if one is changed to itself there. */
        long changed(int coin, int n, int code, int size) {
            long there = n;
            int from = coin;
            for (int i = 0; i < size; i++) {
                int to = digit(code, size, i);
                if (to == from) {
                    return NONE;
                }
                int pair = COINS * from + to;
                there = Numbers.quotient(there * Numbers.at(above, pair), Numbers.at(below, pair));
                from = to;
            }
            return there;
        }
    }

    /** Of all ways to group what is numbered 0 .. size - 1: the most worth, then the most groups, then the first row. */
    private static final class Groups {
        private final long[] worths = new long[1 << BOLTS];
        private final int[] members = new int[BOLTS];
        private final int[] trial = new int[BOLTS];
        final int[] row = new int[BOLTS];
        private int most;
        private int largest;
        private boolean solved;
        int size;
        long worth;

        void setWorth(int set, long v) {
            if (Numbers.at(worths, set) != v) {
                Numbers.put(worths, set, v);
                solved = false;
            }
        }

        /** Calls that ask item by item ask for one row: it is sought anew only if something else is asked. */
        void solve(int newSize, int newLargest) {
            if (solved && size == newSize && largest == newLargest) {
                return;
            }
            size = newSize;
            largest = newLargest;
            most = -1;
            seat(this, 0, 0, 0);
            solved = true;
        }

        /** Tries all groups for one, and for all behind it: rows come in their order. */
        private static void seat(Groups g, int who, int used, long sum) {
            if (who >= g.size || who >= BOLTS) {
                g.keepIfBetter(used, sum);
                return;
            }
            for (int group = 0; group <= used && group < BOLTS; group++) {
                int before = Numbers.at(g.members, group);
                int after = before | 1 << who;
                if (Integer.bitCount(after) <= g.largest) {
                    Numbers.put(g.members, group, after);
                    Numbers.put(g.trial, who, group);
                    long more = Numbers.at(g.worths, after) - Numbers.at(g.worths, before);
                    seat(g, who + 1, Math.max(used, group + 1), sum + more);
                    Numbers.put(g.members, group, before);
                }
            }
        }

        private void keepIfBetter(int used, long sum) {
            if (most < 0 || sum > worth || sum == worth && used > most) {
                worth = sum;
                most = used;
                Numbers.fill(row, trial);
            }
        }
    }

    /** The tape, and what it says of towns. */
    private static final class Tape {
        private final int[] signs = new int[TAPE_MOST];
        int length;
        private int at;
        final int[] measures = new int[TOWNS];
        int counting;
        int law;

        void add(int sign) {
            Numbers.put(signs, length, sign);
            length++;
        }

        /** How many towns count by it, or a fault. */
        int read() {
            at = 0;
            counting = 3;
            law = 0;
            if (!readMeasures() || peek() == ';' && !readCounting()) {
                return FAULT - at;
            }
            if (peek() == 't') {
                law = LAW_TWO;
                at++;
            }
            return peek() < 0 ? Integer.bitCount(counting) : FAULT - at;
        }

        /** The next sign behind blanks; below 0 at the end. */
        private int peek() {
            while (at < length && Numbers.at(signs, at) == BLANK) {
                at++;
            }
            return at < length ? Numbers.at(signs, at) : -1;
        }

        private boolean readMeasures() {
            for (int town = 0; town < TOWNS; town++) {
                if (town > 0) {
                    if (peek() != ',') {
                        return false;
                    }
                    at++;
                }
                int v = readNumber();
                if (v < 1) {
                    return false;
                }
                Numbers.put(measures, town, v);
            }
            return true;
        }

        /** A number 1 .. 999; else 0, and the place is that of its first byte. */
        private int readNumber() {
            peek();
            int first = at;
            int v = 0;
            while (at < length && isDigit(Numbers.at(signs, at))) {
                // held down, so that a long number can't come round to a small one
                v = Math.min(MEASURE_MOST + 1, 10 * v + Numbers.at(signs, at) - '0');
                at++;
            }
            if (v < 1 || v > MEASURE_MOST) {
                at = first;
                return 0;
            }
            return v;
        }

        private static boolean isDigit(int sign) {
            return sign >= '0' && sign <= '9';
        }

        private boolean readCounting() {
            at++;
            int set = 0;
            for (int n = 0; n < TOWNS; n++) {
                int town = peek() - '0';
                if (town < 0 || town >= TOWNS || (set >> town & 1) == 1) {
                    break;
                }
                set |= 1 << town;
                at++;
            }
            counting = set;
            return Integer.bitCount(set) >= 2;
        }
    }

    /** A row of a lane, or nothing. */
    private static final class Sheet {
        final long[] items = new long[ITEMS_MOST];
        boolean isThere;
        int lane;
        int length;

        void begin(int newLane, int n) {
            for (int i = 0; i < items.length; i++) {
                items[i] = 0;
            }
            isThere = true;
            lane = newLane;
            length = n;
        }

        /** Whether n items from i on are there; asks for the room too, so that who copies them need not. */
        boolean spans(int i, int n) {
            return i >= 0 && n >= 0 && n <= length && i <= length - n && length <= items.length;
        }

        void write(int i, long v) {
            Numbers.put(items, i, lane == SHORTS ? (short) v : lane == INTS ? (int) v : v);
        }

        boolean allWithin(int i, int n, int least, int most) {
            for (int k = i; k < i + n; k++) {
                if (Numbers.at(items, k) < least || Numbers.at(items, k) > most) {
                    return false;
                }
            }
            return true;
        }

        /** Of the items from i on, those of a set together. */
        long sumOf(int i, int set) {
            long sum = 0;
            for (int b = 0; b < BUYERS; b++) {
                if ((set >> b & 1) == 1) {
                    sum += Numbers.at(items, i + b);
                }
            }
            return sum;
        }

        long commonOf(int i, int n) {
            long common = 0;
            for (int k = i; k < i + n; k++) {
                common = Numbers.greatestCommon(Numbers.at(items, k), common);
            }
            return common;
        }
    }
}
