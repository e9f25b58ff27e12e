import java.util.Arrays;

/** A force dressed from tables, regulations and stores; the document's promises are its methods. */
public final class ClothForce {
    public static final int BAD = -1, STATE = -2, FULL = -3, NONE = -4;

    private static final int LAST_DAY = 9999;
    private static final int BODIES = 12;
    private static final int RANKS = 6;
    private static final int DUTIES = 4;
    private static final int CLIMATES = 3;
    private static final int MEASURE_KINDS = 3;
    private static final int MOST_MEASURE = 250;
    private static final int MEASURES = 60;
    private static final int KINDS = 4;
    private static final int SIZES = 12;
    private static final int MOST_LEEWAY = 50;
    private static final int ALTERED_LEEWAY = 5;
    private static final int MOST_CHOSEN = 10;
    private static final int TAPE_BYTES = 240;
    private static final int LINES = 12;
    private static final int TESTS = 3;
    private static final int DEFAULT_LIFE = 365;
    private static final int DEFAULT_PRICE = 100;
    private static final int STORES = 4;
    private static final int FIRST_ROAD = 50;
    private static final int LONGEST_ROAD = 99;
    private static final int PIECES = 36;
    private static final int LOTS = 6;
    private static final int SHADES = 100;
    private static final int SHEETS = 4;
    private static final int CELLS = 60;
    private static final int BYTE_LANE = 0;
    private static final int SHORT_LANE = 1;
    private static final int INT_LANE = 2;
    private static final int NULL_FAULT = -11;
    private static final int INDEX_FAULT = -12;
    private static final int CAST_FAULT = -13;
    private static final int SIZE_FAULT = -14;

    private int today;
    private int latestFault;
    private final Bodies bodies;
    private final Measures measures;
    private final Sizes sizes;
    private final Tape tape;
    private final Reader reader;
    private Rules rules;
    private Rules draft;
    private final Stores stores;
    private final Pieces pieces;
    private final Choice choice;
    private final Parade lineUp;
    private final Sheets sheets;

    public ClothForce() {
        bodies = new Bodies();
        measures = new Measures();
        sizes = new Sizes();
        tape = new Tape();
        reader = new Reader();
        rules = new Rules();
        draft = new Rules();
        stores = new Stores();
        pieces = new Pieces();
        choice = new Choice();
        lineUp = new Parade();
        sheets = new Sheets();
    }

    // ---- the day, bodies, sizes

    public int day(int d) {
        if (!isWithin(d, today, LAST_DAY)) {
            return BAD;
        }
        int before = today;
        today = d;
        return before;
    }

    public int body(int rank, int duty, int climate) {
        if (!isTrait(0, rank) || !isTrait(1, duty) || !isTrait(2, climate)) {
            return BAD;
        }
        return bodies.add(rank, duty, climate);
    }

    public int becomes(int b, int what, int v) {
        if (!bodies.has(b) || !isTrait(what, v)) {
            return BAD;
        }
        int before = bodies.traits[b][what];
        bodies.traits[b][what] = v;
        return before;
    }

    public int measure(int b, int what, int v, int from) {
        if (!bodies.has(b) || !isMeasureKind(what) || !isMeasure(v) || !isDay(from)) {
            return BAD;
        }
        return measures.add(b, what, v, from, today);
    }

    public int known(int b, int what, int k, int d) {
        if (!bodies.has(b) || !isMeasureKind(what) || !isDay(k) || !isDay(d)) {
            return BAD;
        }
        return measures.asKnown(b, what, k, d);
    }

    public int told(int b, int what) {
        if (!bodies.has(b)) {
            return BAD;
        }
        if (isWithin(what, 0, 2)) {
            return bodies.traits[b][what];
        }
        if (isWithin(what, 3, 5)) {
            return measureNow(b, what - 3);
        }
        if (what == 6) {
            return pieces.countWith(b);
        }
        if (what == 7) {
            return bodies.charges[b];
        }
        if (isWithin(what, 10, 10 + KINDS - 1)) {
            return usableWith(b, what - 10);
        }
        if (isWithin(what, 20, 20 + KINDS - 1)) {
            return dueTo(b, what - 20, today);
        }
        return BAD;
    }

    public int size(int kind, int c0, int c1, int l0, int l1, int f0, int f1) {
        if (!isKind(kind) || !isSpan(c0, c1) || !isSpan(l0, l1) || !isSpan(f0, f1)) {
            return BAD;
        }
        int s = sizes.add(kind);
        if (s >= 0) {
            sizes.limit(s, 0, c0, c1);
            sizes.limit(s, 1, l0, l1);
            sizes.limit(s, 2, f0, f1);
        }
        return s;
    }

    public int fits(int s, int b, int e) {
        if (!sizes.has(s) || !bodies.has(b) || !isWithin(e, 0, MOST_LEEWAY)) {
            return BAD;
        }
        return leewayNeeded(s, b) <= e ? 1 : 0;
    }

    public int sized(int b, int kind, int e, int what) {
        if (!bodies.has(b) || !isKind(kind) || !isWithin(what, 0, 2)) {
            return BAD;
        }
        if (what == 2) {
            return leastLeeway(b, kind);
        }
        if (!isWithin(e, 0, MOST_LEEWAY)) {
            return BAD;
        }
        int many = 0;
        int least = NONE;
        for (int s = sizes.many - 1; s >= 0; s--) {
            if (sizes.isOf(s, kind) && leewayNeeded(s, b) <= e) {
                many++;
                least = s;
            }
        }
        return what == 0 ? many : least;
    }

    public int chosen(int kind, int n, int what) {
        if (!isKind(kind) || !isWithin(n, 0, MOST_CHOSEN) || !isWithin(what, 0, 2)) {
            return BAD;
        }
        choice.clear();
        for (int s = 0; s < sizes.many; s++) {
            if (sizes.isOf(s, kind) && !choice.offer(s, fittedBy(s))) {
                return STATE;
            }
        }
        choice.choose(n);
        if (what == 0) {
            return Integer.bitCount(choice.fitted);
        }
        return what == 1 ? choice.sizeBits() : bodies.allBits() & ~choice.fitted;
    }

    // ---- regulations

    public int feed(long v) {
        return tape.add(v);
    }

    public int end(int n) {
        if (!isWithin(n, 0, tape.length)) {
            return BAD;
        }
        int before = tape.length;
        tape.length = n;
        return before;
    }

    public int text() {
        tape.cut();
        tape.length = 0;
        draft.lines = 0;
        latestFault = reader.read(tape, draft);
        if (latestFault != 0) {
            return -10 - reader.flawPlace;
        }
        Rules old = rules;
        rules = draft;
        draft = old;
        return rules.lines;
    }

    public int fault() {
        return latestFault;
    }

    public int due(int b, int kind, int day) {
        if (!bodies.has(b) || !isKind(kind) || !isDay(day)) {
            return BAD;
        }
        return dueTo(b, kind, day);
    }

    public int why(int b, int kind, int day) {
        if (!bodies.has(b) || !isKind(kind) || !isDay(day)) {
            return BAD;
        }
        return rules.lineDue(bodies.traits[b], kind, day);
    }

    public int rule(int kind, int what, int day) {
        if (!isKind(kind) || !isWithin(what, 0, 1) || !isDay(day)) {
            return BAD;
        }
        return what == 0 ? lifeOn(kind, day) : priceOn(kind, day);
    }

    // ---- pieces

    public int store() {
        return stores.add();
    }

    public int road(int s, int t, int v) {
        if (!stores.has(s) || !stores.has(t) || s == t || !isWithin(v, 0, LONGEST_ROAD)) {
            return BAD;
        }
        int before = stores.roads[s][t];
        stores.roads[s][t] = v;
        stores.roads[t][s] = v;
        return before;
    }

    public int piece(int store, int size, int lot, int shade) {
        if (!stores.has(store) || !sizes.has(size) || !isLot(lot) || !isShade(shade)) {
            return BAD;
        }
        return pieces.add(store, size, lot, shade);
    }

    public int pieceOf(int p, int what) {
        if (!pieces.has(p)) {
            return BAD;
        }
        switch (what) {
            case 0: return pieces.sizeOf[p];
            case 1: return pieces.lotOf[p];
            case 2: return pieces.shadeOf[p];
            case 3: return pieces.storeOf[p];
            case 4: return pieces.bodyOf[p];
            case 5: return pieces.wornBy(p, today);
            case 6: return pieces.timesIssued[p];
            case 7: return pieces.failed[p];
            case 8: return pieces.lastBody[p];
            default: return BAD;
        }
    }

    public int issue(int p, int b) {
        if (!pieces.has(p) || !bodies.has(b)) {
            return BAD;
        }
        int kind = kindOf(p);
        int far = leewayNeeded(pieces.sizeOf[p], b);
        if (!pieces.isStored(p) || far > ALTERED_LEEWAY || isWornOut(p)) {
            return STATE;
        }
        if (usableWith(b, kind) >= dueTo(b, kind, today)) {
            return STATE;
        }
        pieces.handOut(p, b, today);
        return far == 0 ? 1 : 0;
    }

    public int back(int p, int store) {
        if (!pieces.has(p) || !stores.has(store)) {
            return BAD;
        }
        if (!pieces.isWithBody(p)) {
            return STATE;
        }
        pieces.takeOff(p, today);
        pieces.storeOf[p] = store;
        return pieces.wornBy(p, today);
    }

    public int lost(int p) {
        if (!pieces.has(p)) {
            return BAD;
        }
        if (!pieces.isWithBody(p)) {
            return STATE;
        }
        int b = pieces.bodyOf[p];
        int charge = chargeFor(p);
        pieces.takeOff(p, today);
        if (bodies.has(b)) {
            bodies.charges[b] += charge;
        }
        return charge;
    }

    public int move(int p, int store) {
        if (!pieces.has(p) || !stores.has(store) || pieces.storeOf[p] == store) {
            return BAD;
        }
        if (!pieces.isStored(p)) {
            return STATE;
        }
        int road = stores.roads[pieces.storeOf[p]][store];
        pieces.storeOf[p] = store;
        return road;
    }

    public int fail(int p) {
        if (!pieces.has(p)) {
            return BAD;
        }
        if (pieces.isGone(p)) {
            return STATE;
        }
        pieces.takeOff(p, today);
        pieces.storeOf[p] = NONE;
        pieces.failed[p] = 1;
        return pieces.wornBy(p, today);
    }

    public int stock(int store, int kind) {
        if (!stores.has(store) || !isKind(kind)) {
            return BAD;
        }
        return stockOf(store, kind);
    }

    // ---- searches

    public int parade(int kind, int e, int what) {
        boolean asked = isWithin(what, 0, 1) || what >= 10 && bodies.has(what - 10);
        if (!isKind(kind) || !isWithin(e, 0, SHADES - 1) || !asked) {
            return BAD;
        }
        layOut(kind);
        lineUp.findShade(e);
        if (what == 0) {
            return lineUp.most;
        }
        if (what == 1) {
            return lineUp.most == 0 ? NONE : lineUp.shade;
        }
        return lineUp.pieceFor(what - 10);
    }

    public int order(int kind, int digits) {
        int answer = planned(kind, digits);
        return answer < 0 ? answer : stores.leastCost;
    }

    public int ordered(int kind, int digits, int from, int to) {
        // One and the same STORE is no wrong number here: nothing is MOVED within it.
        if (!stores.has(from) || !stores.has(to)) {
            return BAD;
        }
        int answer = planned(kind, digits);
        return answer < 0 ? answer : stores.movedBetween(from, to);
    }

    public long lot(int l, int what) {
        if (!isLot(l) || !isWithin(what, 0, 3)) {
            return BAD;
        }
        if (what == 0) {
            return pieces.countOfLot(l);
        }
        if (what == 1) {
            return pieces.countFailed(l);
        }
        long bad = pieces.waysAsBad(l);
        long all = waysToDraw(pieces.many, pieces.countAllFailed());
        long common = Math.max(1, commonDivisor(bad, all));
        return what == 2 ? bad / common : all / common;
    }

    public int worst() {
        if (pieces.countAllFailed() == 0) {
            return NONE;
        }
        // All CHANCES have one denominator: the ways alone tell which is the least.
        int worst = 0;
        long least = pieces.waysAsBad(0);
        for (int l = 1; l < LOTS; l++) {
            long ways = pieces.waysAsBad(l);
            if (ways < least) {
                least = ways;
                worst = l;
            }
        }
        return worst;
    }

    // ---- sheets

    public int sheet(int k, int lane, int n) {
        if (!isSheet(k) || !isLane(lane) || n > CELLS) {
            return BAD;
        }
        if (n < 0) {
            return SIZE_FAULT;
        }
        sheets.renew(k, lane, n);
        return 1;
    }

    public int lay(int k, int i, int v) {
        if (!isSheet(k)) {
            return BAD;
        }
        if (sheets.isNothing(k)) {
            return NULL_FAULT;
        }
        if (!sheets.hasCell(k, i)) {
            return INDEX_FAULT;
        }
        sheets.put(k, i, v);
        return 1;
    }

    public int scan(int k, int lane, int f) {
        if (!isSheet(k) || !isLane(lane)) {
            return BAD;
        }
        if (sheets.isNothing(k)) {
            return NULL_FAULT;
        }
        if (sheets.lanes[k] != lane) {
            return CAST_FAULT;
        }
        int cells = MEASURE_KINDS * bodies.many;
        for (int i = 0; i < cells; i++) {
            int refusal = refusalOfCell(k, f, i);
            if (refusal != 0) {
                return refusal;
            }
        }
        // FULL is told of all CELLS: it is met where none of them has been refused.
        if (measures.many + cells > MEASURES) {
            return FULL;
        }
        for (int i = 0; i < cells; i++) {
            measures.add(i / MEASURE_KINDS, i % MEASURE_KINDS, sheets.cells[k][f + i], today, today);
        }
        return measures.many;
    }

    public int count(int what) {
        switch (what) {
            case 0: return bodies.many;
            case 1: return sizes.many;
            case 2: return stores.many;
            case 3: return pieces.many;
            case 4: return pieces.countStored();
            case 5: return pieces.countWithBodies();
            case 6: return pieces.many - pieces.countStored() - pieces.countWithBodies();
            case 7: return rules.lines;
            case 8: return measures.many;
            case 9: return today;
            case 10: return bodies.allCharges();
            case 11: return tape.length;
            case 12: return sheets.isNothing(0) ? NONE : sheets.lengths[0];
            default: return BAD;
        }
    }

    // ---- bounds

    private static boolean isWithin(int v, int least, int greatest) {
        return v >= least && v <= greatest;
    }

    private static boolean isDay(int d) {
        return isWithin(d, 0, LAST_DAY);
    }

    private static boolean isKind(int kind) {
        return isWithin(kind, 0, KINDS - 1);
    }

    private static boolean isTrait(int what, int v) {
        switch (what) {
            case 0: return isWithin(v, 0, RANKS - 1);
            case 1: return isWithin(v, 0, DUTIES - 1);
            case 2: return isWithin(v, 0, CLIMATES - 1);
            default: return false;
        }
    }

    private static boolean isMeasureKind(int what) {
        return isWithin(what, 0, MEASURE_KINDS - 1);
    }

    private static boolean isMeasure(int v) {
        return isWithin(v, 0, MOST_MEASURE);
    }

    private static boolean isSpan(int least, int greatest) {
        return isMeasure(least) && isMeasure(greatest) && least <= greatest;
    }

    private static boolean isLot(int l) {
        return isWithin(l, 0, LOTS - 1);
    }

    private static boolean isShade(int shade) {
        return isWithin(shade, 0, SHADES - 1);
    }

    private static boolean isSheet(int k) {
        return isWithin(k, 0, SHEETS - 1);
    }

    private static boolean isLane(int lane) {
        return isWithin(lane, BYTE_LANE, INT_LANE);
    }

    // ---- what several calls look up

    private int measureNow(int b, int what) {
        return measures.asKnown(b, what, today, today);
    }

    /** The least LEEWAY with which a SIZE FITS a BODY, without an upper bound; 0: it FITS as it is. */
    private int leewayNeeded(int s, int b) {
        int needed = 0;
        for (int what = 0; what < MEASURE_KINDS; what++) {
            needed = Math.max(needed, sizes.outside(s, what, measureNow(b, what)));
        }
        return needed;
    }

    private int leastLeeway(int b, int kind) {
        int least = MOST_LEEWAY + 1;
        for (int s = 0; s < sizes.many; s++) {
            if (sizes.isOf(s, kind)) {
                least = Math.min(least, leewayNeeded(s, b));
            }
        }
        return least > MOST_LEEWAY ? NONE : least;
    }

    /** The BODIES that a SIZE FITS, as bits. */
    private int fittedBy(int s) {
        int fitted = 0;
        for (int b = 0; b < bodies.many; b++) {
            if (leewayNeeded(s, b) == 0) {
                fitted |= 1 << b;
            }
        }
        return fitted;
    }

    private int dueTo(int b, int kind, int day) {
        return rules.numberOf(rules.lineDue(bodies.traits[b], kind, day));
    }

    private int lifeOn(int kind, int day) {
        return rules.latest(Tape.LIFE, kind, day, DEFAULT_LIFE);
    }

    private int priceOn(int kind, int day) {
        return rules.latest(Tape.PRICE, kind, day, DEFAULT_PRICE);
    }

    private int kindOf(int p) {
        return sizes.kinds[pieces.sizeOf[p]];
    }

    private boolean isWornOut(int p) {
        return pieces.wornBy(p, today) >= lifeOn(kindOf(p), today);
    }

    /** How many of a KIND a BODY HAS. */
    private int usableWith(int b, int kind) {
        int many = 0;
        for (int p = 0; p < pieces.many; p++) {
            if (pieces.bodyOf[p] == b && kindOf(p) == kind && !isWornOut(p)) {
                many++;
            }
        }
        return many;
    }

    private int chargeFor(int p) {
        int life = lifeOn(kindOf(p), today);
        int left = Math.max(0, life - pieces.wornBy(p, today));
        return life < 1 ? 0 : priceOn(kindOf(p), today) * left / life;
    }

    private int stockOf(int store, int kind) {
        int many = 0;
        for (int p = 0; p < pieces.many; p++) {
            if (pieces.storeOf[p] == store && kindOf(p) == kind) {
                many++;
            }
        }
        return many;
    }

    /** Tells the parade who is there and which PIECES of a KIND in STORES each could get. */
    private void layOut(int kind) {
        lineUp.clear(bodies.many);
        for (int s = 0; s < sizes.many; s++) {
            if (!sizes.isOf(s, kind)) {
                continue;
            }
            int fitted = fittedBy(s);
            for (int p = 0; p < pieces.many; p++) {
                if (pieces.sizeOf[p] == s && pieces.isStored(p)) {
                    lineUp.offer(p, pieces.shadeOf[p], fitted);
                }
            }
        }
    }

    /** Plans an ORDER OF THE DAY; 0, or why there is none. */
    private int planned(int kind, int digits) {
        // Zero digits above the last STORE are none: a shift tells whether any other stands there.
        if (!isKind(kind) || digits < 0 || digits >> 4 * stores.many != 0) {
            return BAD;
        }
        int left = 0;
        for (int s = 0; s < stores.many; s++) {
            int held = stockOf(s, kind);
            int wanted = digits >> 4 * s & 15;
            stores.weigh(s, held, wanted);
            left += held - wanted;
        }
        if (left < 0) {
            return NONE;
        }
        stores.plan();
        return 0;
    }

    /** Why CELL f + i can not be told, or 0. */
    private int refusalOfCell(int k, int f, int i) {
        // Cell by cell: f was a place of the sheet when i was 0, so that f + i never wraps around.
        if (!sheets.hasCell(k, f + i)) {
            return INDEX_FAULT;
        }
        return isMeasure(sheets.cells[k][f + i]) ? 0 : -100 - i;
    }

    /** In how many ways k of n can be drawn. */
    private static long waysToDraw(int n, int k) {
        if (k < 0 || k > n) {
            return 0;
        }
        long ways = 1;
        for (int i = 1; i <= k; i++) {
            // Every division is without rest: what stands here is the ways to draw i.
            ways = ways * (n - k + i) / i;
        }
        return ways;
    }

    private static long commonDivisor(long a, long b) {
        long x = a;
        long y = b;
        // Euclid halves in two turns at least: 200 turns are beyond any long.
        for (int turn = 0; turn < 200 && y != 0; turn++) {
            long rest = x % y;
            x = y;
            y = rest;
        }
        return x;
    }

    private static final class Bodies {
        int many;
        final int[][] traits = new int[BODIES][3];
        final int[] charges = new int[BODIES];

        boolean has(int b) {
            return b >= 0 && b < many;
        }

        int add(int rank, int duty, int climate) {
            if (many >= BODIES) {
                return FULL;
            }
            traits[many][0] = rank;
            traits[many][1] = duty;
            traits[many][2] = climate;
            return many++;
        }

        int allBits() {
            return (1 << many) - 1;
        }

        int allCharges() {
            int sum = 0;
            for (int b = 0; b < many; b++) {
                sum += charges[b];
            }
            return sum;
        }
    }

    /** All MEASURES as they were told: none is ever overwritten, so that older days stay known. */
    private static final class Measures {
        int many;
        private final int[] whose = new int[MEASURES];
        private final int[] what = new int[MEASURES];
        private final int[] value = new int[MEASURES];
        private final int[] from = new int[MEASURES];
        private final int[] toldOn = new int[MEASURES];

        int add(int b, int kind, int v, int start, int today) {
            if (many >= MEASURES) {
                return FULL;
            }
            whose[many] = b;
            what[many] = kind;
            value[many] = v;
            from[many] = start;
            toldOn[many] = today;
            many++;
            return many;
        }

        int asKnown(int b, int kind, int knownOn, int onDay) {
            int best = 0;
            int bestFrom = -1;
            for (int i = 0; i < many; i++) {
                boolean counts = whose[i] == b && what[i] == kind && toldOn[i] <= knownOn && from[i] <= onDay;
                // Of one day the one told last counts: a later one as late replaces it.
                if (counts && from[i] >= bestFrom) {
                    best = value[i];
                    bestFrom = from[i];
                }
            }
            return best;
        }
    }

    private static final class Sizes {
        int many;
        final int[] kinds = new int[SIZES];
        private final int[][] least = new int[SIZES][MEASURE_KINDS];
        private final int[][] greatest = new int[SIZES][MEASURE_KINDS];

        boolean has(int s) {
            return s >= 0 && s < many;
        }

        boolean isOf(int s, int kind) {
            return kinds[s] == kind;
        }

        int add(int kind) {
            if (many >= SIZES) {
                return FULL;
            }
            kinds[many] = kind;
            return many++;
        }

        void limit(int s, int what, int low, int high) {
            least[s][what] = low;
            greatest[s][what] = high;
        }

        int outside(int s, int what, int v) {
            return Math.max(0, Math.max(least[s][what] - v, v - greatest[s][what]));
        }
    }

    /** Chooses, of the SIZES offered to it, those that fit the most BODIES. */
    private static final class Choice {
        int fitted;
        private int offered;
        private int set;
        private final int[] numbers = new int[MOST_CHOSEN];
        private final int[] fittedBySize = new int[MOST_CHOSEN];

        void clear() {
            offered = 0;
        }

        /** Whether there was room for it; SIZES come in the order of their numbers. */
        boolean offer(int s, int bodiesFitted) {
            if (offered >= MOST_CHOSEN) {
                return false;
            }
            numbers[offered] = s;
            fittedBySize[offered] = bodiesFitted;
            offered++;
            return true;
        }

        void choose(int n) {
            set = 0;
            fitted = 0;
            // Sets come by their sums, so that of equal ones the first stays.
            for (int other = 1; other < 1 << offered; other++) {
                if (Integer.bitCount(other) <= n) {
                    compare(other, unionOf(other));
                }
            }
        }

        private void compare(int other, int otherFitted) {
            int more = Integer.bitCount(otherFitted) - Integer.bitCount(fitted);
            if (more > 0 || more == 0 && Integer.bitCount(other) < Integer.bitCount(set)) {
                set = other;
                fitted = otherFitted;
            }
        }

        private int unionOf(int sizesSet) {
            int union = 0;
            for (int i = 0; i < offered; i++) {
                if ((sizesSet >> i & 1) != 0) {
                    union |= fittedBySize[i];
                }
            }
            return union;
        }

        int sizeBits() {
            int bits = 0;
            for (int i = 0; i < offered; i++) {
                if ((set >> i & 1) != 0) {
                    bits |= 1 << numbers[i];
                }
            }
            return bits;
        }
    }

    /** THE TAPE, and the TOKENS cut from it. */
    private static final class Tape {
        // What a TOKEN is; names that share a use stand in a row, so that a range tells them.
        static final int END = 0, FLAW = 1, NUMBER = 2, LESS = 3, SAME = 4, MORE = 5, STOP = 6;
        static final int FROM = 7, ISSUE = 8, LIFE = 9, PRICE = 10, IF = 11, AND = 12;
        static final int RANK = 13, DUTY = 14, CLIMATE = 15;

        private static final int MOST_FIGURES = 4;

        int length;
        private int tokens;
        private final byte[] bytes = new byte[TAPE_BYTES];
        // One more than bytes: the END has a place too.
        private final int[] token = new int[TAPE_BYTES + 1];
        private final int[] place = new int[TAPE_BYTES + 1];
        private final int[] value = new int[TAPE_BYTES + 1];

        int add(long v) {
            if (length + 8 > TAPE_BYTES) {
                return FULL;
            }
            for (int shift = 56; shift >= 0; shift -= 8) {
                bytes[length] = (byte) (v >> shift);
                length++;
            }
            return length;
        }

        /** Cuts THE TAPE to TOKENS; the last is the END, or a FLAW where no TOKEN could be cut. */
        void cut() {
            tokens = 0;
            int behind = 0;
            for (int at = 0; at < length; at++) {
                if (at < behind || bytes[at] == ' ') {
                    continue;
                }
                behind = runBehind(at);
                int kind = kindOfRun(at, behind);
                keep(kind, at, kind == NUMBER ? numberIn(at, behind) : 0);
                if (kind == FLAW) {
                    return;
                }
            }
            keep(END, length, 0);
        }

        /** What the TOKEN i is; behind the last one there is nothing but the END. */
        int tokenAt(int i) {
            return i >= 0 && i < tokens ? token[i] : END;
        }

        int placeAt(int i) {
            return i >= 0 && i < tokens ? place[i] : 0;
        }

        int valueAt(int i) {
            return i >= 0 && i < tokens ? value[i] : 0;
        }

        private void keep(int kind, int at, int number) {
            if (tokens < token.length) {
                token[tokens] = kind;
                place[tokens] = at;
                value[tokens] = number;
                tokens++;
            }
        }

        private int runBehind(int at) {
            boolean letters = isLetter(bytes[at]);
            boolean figures = isFigure(bytes[at]);
            int behind = at + 1;
            while (behind < length && (letters && isLetter(bytes[behind]) || figures && isFigure(bytes[behind]))) {
                behind++;
            }
            return behind;
        }

        private int kindOfRun(int at, int behind) {
            if (isLetter(bytes[at])) {
                return nameIn(at, behind);
            }
            if (isFigure(bytes[at])) {
                return behind - at > MOST_FIGURES ? FLAW : NUMBER;
            }
            switch (bytes[at]) {
                case '<': return LESS;
                case '=': return SAME;
                case '>': return MORE;
                case ';': return STOP;
                default: return FLAW;
            }
        }

        private int nameIn(int at, int behind) {
            if (spells("from", at, behind)) {
                return FROM;
            }
            if (spells("issue", at, behind)) {
                return ISSUE;
            }
            if (spells("life", at, behind)) {
                return LIFE;
            }
            if (spells("price", at, behind)) {
                return PRICE;
            }
            if (spells("if", at, behind)) {
                return IF;
            }
            if (spells("and", at, behind)) {
                return AND;
            }
            if (spells("rank", at, behind)) {
                return RANK;
            }
            if (spells("duty", at, behind)) {
                return DUTY;
            }
            return spells("climate", at, behind) ? CLIMATE : FLAW;
        }

        private boolean spells(String name, int at, int behind) {
            if (name.length() != behind - at) {
                return false;
            }
            for (int i = 0; i < name.length(); i++) {
                if (bytes[at + i] != name.charAt(i)) {
                    return false;
                }
            }
            return true;
        }

        private int numberIn(int at, int behind) {
            int number = 0;
            for (int i = at; i < behind; i++) {
                number = 10 * number + bytes[i] - '0';
            }
            return number;
        }

        private static boolean isLetter(byte sign) {
            return sign >= 'a' && sign <= 'z';
        }

        private static boolean isFigure(byte sign) {
            return sign >= '0' && sign <= '9';
        }
    }

    /** Reads the TOKENS of THE TAPE as regulations, up to the first FAULT. */
    private static final class Reader {
        private static final int NO_TOKEN = 1, MISPLACED = 2, OUT_OF_BOUNDS = 3, TOO_MANY = 4, TWICE = 5;
        private static final int MOST_ISSUED = 9, LONGEST_LIFE = 9999, HIGHEST_PRICE = 9999, MOST_TESTED = 9;

        int flawPlace;
        private int flaw;
        private int at;
        private int number;

        /** The FAULT, or 0; the lines read go to a draft. */
        int read(Tape tape, Rules draft) {
            flaw = 0;
            flawPlace = 0;
            at = 0;
            // A FAULT ends it, at the 13th line at the latest.
            for (int line = 0; line <= LINES && tape.tokenAt(at) != Tape.END; line++) {
                if (!readLine(tape, draft)) {
                    return flaw;
                }
            }
            return 0;
        }

        private boolean readLine(Tape tape, Rules draft) {
            int first = tape.tokenAt(at);
            if (first < Tape.FROM || first > Tape.PRICE) {
                return refuseToken(tape);
            }
            if (draft.lines >= LINES) {
                return refuse(TOO_MANY, tape.placeAt(at));
            }
            int from = 0;
            if (first == Tape.FROM) {
                at++;
                if (!takeNumber(tape, 0, LAST_DAY)) {
                    return false;
                }
                from = number;
            }
            int what = tape.tokenAt(at);
            if (what < Tape.ISSUE || what > Tape.PRICE) {
                return refuseToken(tape);
            }
            at++;
            if (!readRule(tape, draft, what, from)) {
                return false;
            }
            if (what == Tape.ISSUE && tape.tokenAt(at) == Tape.IF && !readTests(tape, draft)) {
                return false;
            }
            if (tape.tokenAt(at) != Tape.STOP) {
                return refuseToken(tape);
            }
            at++;
            return true;
        }

        private boolean readRule(Tape tape, Rules draft, int what, int from) {
            int kindPlace = tape.placeAt(at);
            if (!takeNumber(tape, 0, KINDS - 1)) {
                return false;
            }
            int kind = number;
            if (what != Tape.ISSUE && draft.isTold(what, kind, from)) {
                return refuse(TWICE, kindPlace);
            }
            int least = what == Tape.LIFE ? 1 : 0;
            int most = what == Tape.ISSUE ? MOST_ISSUED : what == Tape.LIFE ? LONGEST_LIFE : HIGHEST_PRICE;
            if (!takeNumber(tape, least, most)) {
                return false;
            }
            draft.add(what, from, kind, number);
            return true;
        }

        private boolean readTests(Tape tape, Rules draft) {
            // One turn more than there may be tests: the 4th is a FAULT of its own.
            for (int test = 0; test <= TESTS; test++) {
                // Past the 'if', then past each 'and'.
                at++;
                int trait = tape.tokenAt(at);
                if (trait < Tape.RANK || trait > Tape.CLIMATE) {
                    return refuseToken(tape);
                }
                if (test >= TESTS) {
                    return refuse(TOO_MANY, tape.placeAt(at));
                }
                at++;
                int sign = tape.tokenAt(at);
                if (sign < Tape.LESS || sign > Tape.MORE) {
                    return refuseToken(tape);
                }
                at++;
                if (!takeNumber(tape, 0, MOST_TESTED)) {
                    return false;
                }
                draft.addTest(trait - Tape.RANK, sign, number);
                if (tape.tokenAt(at) != Tape.AND) {
                    return true;
                }
            }
            return true;
        }

        private boolean takeNumber(Tape tape, int least, int most) {
            if (tape.tokenAt(at) != Tape.NUMBER) {
                return refuseToken(tape);
            }
            number = tape.valueAt(at);
            if (number < least || number > most) {
                return refuse(OUT_OF_BOUNDS, tape.placeAt(at));
            }
            at++;
            return true;
        }

        private boolean refuseToken(Tape tape) {
            return refuse(tape.tokenAt(at) == Tape.FLAW ? NO_TOKEN : MISPLACED, tape.placeAt(at));
        }

        private boolean refuse(int newFlaw, int place) {
            flaw = newFlaw;
            flawPlace = place;
            return false;
        }
    }

    /** The lines of regulations, in the order in which they were told. */
    private static final class Rules {
        int lines;
        private final int[] what = new int[LINES];
        private final int[] from = new int[LINES];
        private final int[] kinds = new int[LINES];
        private final int[] numbers = new int[LINES];
        private final int[] tests = new int[LINES];
        private final int[][] trait = new int[LINES][TESTS];
        private final int[][] sign = new int[LINES][TESTS];
        private final int[][] against = new int[LINES][TESTS];

        void add(int newWhat, int start, int kind, int number) {
            if (lines < LINES) {
                what[lines] = newWhat;
                from[lines] = start;
                kinds[lines] = kind;
                numbers[lines] = number;
                tests[lines] = 0;
                lines++;
            }
        }

        /** A test of the latest line. */
        void addTest(int whichTrait, int whichSign, int number) {
            int line = lines - 1;
            if (line >= 0 && tests[line] < TESTS) {
                int test = tests[line];
                trait[line][test] = whichTrait;
                sign[line][test] = whichSign;
                against[line][test] = number;
                tests[line]++;
            }
        }

        boolean isTold(int which, int kind, int start) {
            for (int line = 0; line < lines; line++) {
                if (what[line] == which && kinds[line] == kind && from[line] == start) {
                    return true;
                }
            }
            return false;
        }

        int numberOf(int line) {
            return line >= 0 && line < lines ? numbers[line] : 0;
        }

        /** The line by which a BODY with these traits is DUE something; NONE. */
        int lineDue(int[] traits, int kind, int onDay) {
            int best = NONE;
            for (int line = 0; line < lines; line++) {
                boolean told = what[line] == Tape.ISSUE && kinds[line] == kind && from[line] <= onDay;
                if (told && holds(line, traits) && (best < 0 || numbers[line] > numbers[best])) {
                    best = line;
                }
            }
            return best;
        }

        int latest(int which, int kind, int onDay, int otherwise) {
            int number = otherwise;
            int latestFrom = -1;
            for (int line = 0; line < lines; line++) {
                boolean told = what[line] == which && kinds[line] == kind && from[line] <= onDay;
                if (told && from[line] > latestFrom) {
                    latestFrom = from[line];
                    number = numbers[line];
                }
            }
            return number;
        }

        private boolean holds(int line, int[] traits) {
            for (int test = 0; test < tests[line]; test++) {
                int v = traits[trait[line][test]];
                int n = against[line][test];
                int s = sign[line][test];
                boolean held = s == Tape.LESS ? v < n : s == Tape.MORE ? v > n : v == n;
                if (!held) {
                    return false;
                }
            }
            return true;
        }
    }

    /** STORES, the ROADS between them, and the cheapest way to move PIECES by an ORDER OF THE DAY. */
    private static final class Stores {
        private static final int LANES = STORES * STORES;
        // Above the cost of any plan: 36 PIECES on the longest ROAD.
        private static final int BEYOND_COST = 1000000;

        int many;
        int leastCost;
        final int[][] roads = new int[STORES][STORES];
        private final int[] moved = new int[LANES];
        private final int[] tried = new int[LANES];
        private final int[] spare = new int[STORES];
        private final int[] lack = new int[STORES];

        Stores() {
            for (int s = 0; s < STORES; s++) {
                Arrays.fill(roads[s], FIRST_ROAD);
            }
        }

        boolean has(int s) {
            return s >= 0 && s < many;
        }

        int add() {
            return many >= STORES ? FULL : many++;
        }

        void weigh(int s, int held, int wanted) {
            spare[s] = Math.max(0, held - wanted);
            lack[s] = Math.max(0, wanted - held);
        }

        void plan() {
            leastCost = BEYOND_COST;
            tryLane(this, 0, 0);
        }

        int movedBetween(int from, int to) {
            return moved[laneOf(from, to)];
        }

        private static int laneOf(int from, int to) {
            return STORES * from + to;
        }

        /**
         * Tries all numbers on a lane, the least first, then all lanes behind it: so the first plan
         * found of the least cost is the one that the document wants of several.
         */
        private static void tryLane(Stores h, int lane, int cost) {
            if (cost >= h.leastCost) {
                return;
            }
            if (lane >= LANES) {
                h.leastCost = cost;
                System.arraycopy(h.tried, 0, h.moved, 0, LANES);
                return;
            }
            int from = lane / STORES;
            int to = lane % STORES;
            int most = Math.min(h.spare[from], h.lack[to]);
            // What the STORES behind can not bring must come from here: no plan ends with a lack.
            for (int n = Math.max(0, h.lack[to] - h.spareBehind(from)); n <= most; n++) {
                h.send(lane, n);
                tryLane(h, lane + 1, cost + n * h.roads[from][to]);
                h.send(lane, -n);
            }
        }

        private int spareBehind(int s) {
            int sum = 0;
            for (int t = s + 1; t < STORES; t++) {
                sum += spare[t];
            }
            return sum;
        }

        private void send(int lane, int n) {
            tried[lane] += n;
            spare[lane / STORES] -= n;
            lack[lane % STORES] -= n;
        }
    }

    private static final class Pieces {
        int many;
        final int[] sizeOf = new int[PIECES];
        final int[] lotOf = new int[PIECES];
        final int[] shadeOf = new int[PIECES];
        final int[] storeOf = new int[PIECES];
        final int[] bodyOf = new int[PIECES];
        final int[] lastBody = new int[PIECES];
        final int[] timesIssued = new int[PIECES];
        final int[] failed = new int[PIECES];
        private final int[] issuedOn = new int[PIECES];
        private final int[] wornBefore = new int[PIECES];

        boolean has(int p) {
            return p >= 0 && p < many;
        }

        int add(int store, int size, int lot, int shade) {
            if (many >= PIECES) {
                return FULL;
            }
            sizeOf[many] = size;
            lotOf[many] = lot;
            shadeOf[many] = shade;
            storeOf[many] = store;
            bodyOf[many] = NONE;
            lastBody[many] = NONE;
            return many++;
        }

        boolean isStored(int p) {
            return storeOf[p] >= 0;
        }

        boolean isWithBody(int p) {
            return bodyOf[p] >= 0;
        }

        boolean isGone(int p) {
            return !isStored(p) && !isWithBody(p);
        }

        int wornBy(int p, int today) {
            return wornBefore[p] + (isWithBody(p) ? today - issuedOn[p] : 0);
        }

        void handOut(int p, int b, int today) {
            storeOf[p] = NONE;
            bodyOf[p] = b;
            lastBody[p] = b;
            issuedOn[p] = today;
            timesIssued[p]++;
        }

        /** With no BODY any more; in no STORE either, until one is told. */
        void takeOff(int p, int today) {
            wornBefore[p] = wornBy(p, today);
            bodyOf[p] = NONE;
        }

        int countWith(int b) {
            int sum = 0;
            for (int p = 0; p < many; p++) {
                sum += bodyOf[p] == b ? 1 : 0;
            }
            return sum;
        }

        int countStored() {
            int sum = 0;
            for (int p = 0; p < many; p++) {
                sum += isStored(p) ? 1 : 0;
            }
            return sum;
        }

        int countWithBodies() {
            int sum = 0;
            for (int p = 0; p < many; p++) {
                sum += isWithBody(p) ? 1 : 0;
            }
            return sum;
        }

        int countOfLot(int l) {
            int sum = 0;
            for (int p = 0; p < many; p++) {
                sum += lotOf[p] == l ? 1 : 0;
            }
            return sum;
        }

        int countFailed(int l) {
            int sum = 0;
            for (int p = 0; p < many; p++) {
                sum += lotOf[p] == l ? failed[p] : 0;
            }
            return sum;
        }

        int countAllFailed() {
            int sum = 0;
            for (int p = 0; p < many; p++) {
                sum += failed[p];
            }
            return sum;
        }

        /** Of all ways to draw those that FAILED: in how many the LOT has as many as now, or more. */
        long waysAsBad(int l) {
            int inLot = countOfLot(l);
            int drawn = countAllFailed();
            long ways = 0;
            for (int bad = countFailed(l); bad <= Math.min(inLot, drawn); bad++) {
                ways += waysToDraw(inLot, bad) * waysToDraw(many - inLot, drawn - bad);
            }
            return ways;
        }
    }

    /** Matches BODIES to PIECES; sets of PIECES are the bits of a long. */
    private static final class Parade {
        // Rows are as long as a set has bits: a number taken from a set is always inside.
        private static final int BODY_BITS = 32;
        private static final int PIECE_BITS = 64;

        int most;
        int shade;
        private int bodies;
        private long window;
        private final long[] fitting = new long[BODY_BITS];
        private final int[] pieceOfBody = new int[BODY_BITS];
        private final int[] holder = new int[PIECE_BITS];
        private final int[] reachedBy = new int[PIECE_BITS];
        private final long[] ofShade = new long[SHADES];

        void clear(int manyBodies) {
            bodies = Math.min(manyBodies, BODIES);
            Arrays.fill(fitting, 0);
            Arrays.fill(ofShade, 0);
        }

        void offer(int p, int pieceShade, int fittedBodies) {
            ofShade[pieceShade] |= 1L << p;
            for (int b = 0; b < bodies; b++) {
                if ((fittedBodies >> b & 1) != 0) {
                    fitting[b] |= 1L << p;
                }
            }
        }

        void findShade(int eyes) {
            most = 0;
            shade = 0;
            window = 0;
            long before = 0;
            for (int a = 0; a < SHADES; a++) {
                long set = windowFrom(a, eyes);
                // The same set can do no better; a set with no more PIECES than BODIES found neither.
                if (set != before && Long.bitCount(set) > most) {
                    keepBetter(a, set);
                }
                before = set;
            }
        }

        private void keepBetter(int a, long set) {
            int dressed = dressable(0, set);
            if (dressed > most) {
                most = dressed;
                shade = a;
                window = set;
            }
        }

        private long windowFrom(int a, int eyes) {
            long set = 0;
            for (int s = a; s <= a + eyes && s < SHADES; s++) {
                set |= ofShade[s];
            }
            return set;
        }

        /** The PIECE of a BODY: BODY by BODY the least that leaves as many dressed. */
        int pieceFor(int wanted) {
            long free = window;
            int need = most;
            int given = NONE;
            for (int b = 0; b <= wanted && b < bodies; b++) {
                given = leastPiece(b, free, need);
                if (given >= 0) {
                    free &= ~(1L << given);
                    need--;
                }
            }
            return given;
        }

        private int leastPiece(int b, long free, int need) {
            long tries = fitting[b] & free;
            for (int turn = 0; turn < PIECES && tries != 0; turn++) {
                long bit = tries & -tries;
                if (dressable(b + 1, free & ~bit) == need - 1) {
                    return Long.bitCount(bit - 1);
                }
                tries &= ~bit;
            }
            return NONE;
        }

        /** How many BODIES from the first on can be dressed at once with the free PIECES. */
        private int dressable(int first, long free) {
            Arrays.fill(pieceOfBody, -1);
            Arrays.fill(holder, -1);
            int dressed = 0;
            for (int b = first; b < bodies; b++) {
                dressed += dress(b, free) ? 1 : 0;
            }
            return dressed;
        }

        /** Finds one more BODY a PIECE; others may change theirs, but keep one. */
        private boolean dress(int first, long free) {
            long fresh = free;
            int open = 1 << first;
            // A BODY is opened once: by the one PIECE that it holds, or as the first.
            for (int turn = 0; turn < BODIES && open != 0; turn++) {
                int b = Integer.bitCount((open & -open) - 1);
                open &= open - 1;
                long reach = fitting[b] & fresh;
                fresh &= ~reach;
                for (int step = 0; step < PIECES && reach != 0; step++) {
                    int p = Long.bitCount((reach & -reach) - 1);
                    reach &= reach - 1;
                    reachedBy[p] = b;
                    if (holder[p] < 0) {
                        handOn(p);
                        return true;
                    }
                    open |= 1 << holder[p];
                }
            }
            return false;
        }

        /** Each BODY on the way takes the PIECE it was reached by, and leaves its own to the next. */
        private void handOn(int last) {
            int p = last;
            for (int turn = 0; turn < BODIES && p >= 0; turn++) {
                int b = reachedBy[p];
                int left = pieceOfBody[b];
                pieceOfBody[b] = p;
                holder[p] = b;
                p = left;
            }
        }
    }

    private static final class Sheets {
        private static final int NOTHING = -1;

        final int[] lanes = new int[SHEETS];
        final int[] lengths = new int[SHEETS];
        final int[][] cells = new int[SHEETS][CELLS];

        Sheets() {
            Arrays.fill(lengths, NOTHING);
        }

        boolean isNothing(int k) {
            return lengths[k] < 0;
        }

        boolean hasCell(int k, int i) {
            return i >= 0 && i < lengths[k];
        }

        void renew(int k, int lane, int n) {
            lanes[k] = lane;
            lengths[k] = n;
            Arrays.fill(cells[k], 0);
        }

        /** A number is cut to what its lane holds, as a row of that kind would do. */
        void put(int k, int i, int v) {
            if (lanes[k] == BYTE_LANE) {
                cells[k][i] = (byte) v;
            } else if (lanes[k] == SHORT_LANE) {
                cells[k][i] = (short) v;
            } else {
                cells[k][i] = v;
            }
        }
    }
}
