/**
 * Random runs of calls, each answer against that of Model; the numbers come from a seed, always the same. An object is
 * promised for 512 calls: no answer behind them is asked for.
 */
public final class ModelTest {
    private static final int CALLS = 512;
    private static final Checks C = new Checks();
    private static final int[] EDGES = {-1, -2, Integer.MIN_VALUE, Integer.MAX_VALUE, 1 << 30, -100};
    private static final String[] WORDS = {"from", "issue", "life", "price", "if", "and", "rank", "duty", "climate",
        "<", ">", "=", ";", "0", "1", "3", "4", "9", "10", "9999", "0003", "12345", "$", "ranks", "i", ".", "A", "\0", "\u00e9"};

    private static long seed;
    private static ClothForce x;
    private static Model y;
    private static int calls;

    public static void main(String[] args) {
        runs("bodies and measures", 60, 1);
        runs("sizes that fit", 60, 2);
        runs("regulations", 400, 3);
        runs("pieces and their way", 60, 4);
        runs("parades", 120, 5);
        runs("orders of the day", 80, 6);
        runs("lots", 60, 7);
        runs("sheets", 80, 8);
        runs("all calls", 120, 9);
        anyBodiesFit();
        largeParades();
        anyNumbers();
        C.finish();
    }

    private static int below(int n) {
        seed = seed * 6364136223846793005L + 1442695040888963407L;
        return (int) ((seed >>> 33) % n);
    }

    private static int from(int a, int b) {
        return a + below(b - a + 1);
    }

    /** Mostly from a to b; now and then just outside, or far away. */
    private static int arg(int a, int b) {
        int how = below(60);
        return how == 0 ? EDGES[below(EDGES.length)] : how == 1 ? b + 1 : how == 2 ? a - 1 : from(a, b);
    }

    private static void due(String call, long got, long want) {
        calls++;
        C.due(call, got, want);
    }

    private static void newObjects() {
        x = new ClothForce();
        y = new Model();
        calls = 0;
    }

    private static void runs(String name, int many, int profile) {
        C.test("against the model: " + name);
        for (int run = 0; run < many; run++) {
            seed = 1000003L * profile + run;
            newObjects();
            play(profile);
            sameState();
        }
    }

    /** A step has 40 calls at most; what is left of 512 is for the state behind all. */
    private static void play(int profile) {
        ready(profile);
        for (int turn = 0; turn < 150 && calls < CALLS - 140; turn++) {
            step(profile == 9 ? from(1, 8) : profile);
        }
    }

    /** What all of a profile need: bodies, sizes, stores, pieces. */
    private static void ready(int profile) {
        boolean small = profile == 5 || profile == 9;
        int bodies = small ? from(0, 5) : from(0, 12);
        for (int b = 0; b < bodies; b++) {
            body();
            for (int what = 0; what < 3; what++) {
                measure();
            }
        }
        int sizes = profile == 2 ? from(0, 12) : from(1, 6);
        for (int s = 0; s < sizes; s++) {
            size();
        }
        int stores = from(0, 4);
        for (int s = 0; s < stores; s++) {
            due("store()", x.store(), y.store());
        }
        int pieces = small ? from(0, 12) : from(0, 36);
        for (int p = 0; p < pieces; p++) {
            piece();
        }
        if (profile > 3) {
            type("issue 0 " + from(0, 9) + ";issue 1 4 if rank > 2;life 0 " + from(1, 20) + ";price 0 77;");
            due("text()", x.text(), y.text());
        }
    }

    private static void step(int profile) {
        int how = below(10);
        switch (profile) {
            case 1: stepBodies(how); break;
            case 2: stepSizes(how); break;
            case 3: stepRegulations(how); break;
            case 4: stepPieces(how); break;
            case 5: stepParades(how); break;
            case 6: stepOrders(how); break;
            case 7: stepLots(how); break;
            default: stepSheets(how); break;
        }
    }

    private static int b() {
        return arg(0, Math.max(0, y.count(0) - 1));
    }

    private static int s() {
        return arg(0, Math.max(0, y.count(1) - 1));
    }

    private static int store() {
        return arg(0, Math.max(0, y.count(2) - 1));
    }

    private static int p() {
        return arg(0, Math.max(0, y.count(3) - 1));
    }

    private static int kind() {
        return below(3) > 0 ? 0 : arg(0, 3);
    }

    private static void day() {
        int d = below(4) == 0 ? arg(0, 30) : y.count(9) + from(0, 3);
        due("day(" + d + ")", x.day(d), y.day(d));
    }

    private static void body() {
        int r = arg(0, 5);
        int d = arg(0, 3);
        int c = arg(0, 2);
        due("body(" + r + ", " + d + ", " + c + ")", x.body(r, d, c), y.body(r, d, c));
    }

    private static void measure() {
        int b = b();
        int what = arg(0, 2);
        int v = below(20) == 0 ? arg(0, 250) : arg(20, 60);
        int from = below(20) == 0 ? arg(0, 9999) : from(0, 20);
        due("measure(" + b + ", " + what + ", " + v + ", " + from + ")", x.measure(b, what, v, from), y.measure(b, what, v, from));
    }

    private static void size() {
        int kind = kind();
        int[] c = new int[6];
        for (int i = 0; i < 6; i += 2) {
            c[i] = below(30) == 0 ? arg(0, 250) : from(0, 50);
            c[i + 1] = below(30) == 0 ? arg(0, 250) : c[i] + from(0, 60);
        }
        due("size(" + kind + ", ..)", x.size(kind, c[0], c[1], c[2], c[3], c[4], c[5]), y.size(kind, c));
    }

    private static void piece() {
        int store = store();
        int size = s();
        int lot = arg(0, 5);
        int shade = below(10) == 0 ? arg(0, 99) : from(40, 60);
        due("piece(" + store + ", " + size + ", " + lot + ", " + shade + ")", x.piece(store, size, lot, shade),
            y.piece(store, size, lot, shade));
    }

    private static void stepBodies(int how) {
        int b = b();
        int what = arg(0, 2);
        if (how == 0) {
            day();
        } else if (how == 1) {
            body();
        } else if (how == 2) {
            int v = arg(0, 3);
            due("becomes(" + b + ", " + what + ", " + v + ")", x.becomes(b, what, v), y.becomes(b, what, v));
        } else if (how < 6) {
            measure();
        } else if (how < 9) {
            int k = below(20) == 0 ? arg(0, 9999) : arg(0, 30);
            int d = below(20) == 0 ? arg(0, 9999) : arg(0, 30);
            due("known(" + b + ", " + what + ", " + k + ", " + d + ")", x.known(b, what, k, d), y.known(b, what, k, d));
        } else {
            int w = arg(0, 24);
            due("told(" + b + ", " + w + ")", x.told(b, w), y.told(b, w));
        }
    }

    private static void stepSizes(int how) {
        int b = b();
        int kind = kind();
        int what = arg(0, 2);
        int e = arg(0, 50);
        if (how == 0) {
            size();
        } else if (how == 1) {
            measure();
        } else if (how < 4) {
            int s = s();
            due("fits(" + s + ", " + b + ", " + e + ")", x.fits(s, b, e), y.fits(s, b, e));
        } else if (how < 6) {
            due("sized(" + b + ", " + kind + ", " + e + ", " + what + ")", x.sized(b, kind, e, what), y.sized(b, kind, e, what));
        } else {
            int n = below(8) == 0 ? arg(0, 10) : from(0, 4);
            due("chosen(" + kind + ", " + n + ", " + what + ")", x.chosen(kind, n, what), y.chosen(kind, n, what));
        }
    }

    private static void stepRegulations(int how) {
        int b = b();
        int kind = arg(0, 3);
        int day = below(30) == 0 ? arg(0, 9999) : arg(0, 30);
        if (how < 4) {
            type(wording());
            due("text()", x.text(), y.text());
            due("fault()", x.fault(), y.fault());
        } else if (how == 4) {
            due("why(" + b + ", " + kind + ", " + day + ")", x.why(b, kind, day), y.why(b, kind, day));
        } else if (how < 7) {
            due("due(" + b + ", " + kind + ", " + day + ")", x.due(b, kind, day), y.due(b, kind, day));
        } else if (how < 9) {
            int what = arg(0, 1);
            due("rule(" + kind + ", " + what + ", " + day + ")", x.rule(kind, what, day), y.rule(kind, what, day));
        } else {
            int n = below(3) == 0 ? arg(0, 240) : y.count(11) - from(0, 9);
            due("end(" + n + ")", x.end(n), y.end(n));
            long v = below(2) == 0 ? 0x2020202020202020L : (long) below(1 << 30) << 33 ^ below(1 << 30);
            due("feed(" + v + ")", x.feed(v), y.feed(v));
        }
    }

    /** A text of some lines, often with a word changed, left out or put in. */
    private static String wording() {
        StringBuilder all = new StringBuilder();
        int lines = below(4) == 0 ? from(10, 14) : from(0, 5);
        boolean shortOnes = lines > 9;
        for (int i = 0; i < lines; i++) {
            all.append(line(shortOnes));
        }
        String[] words = all.toString().trim().split(" +");
        int flaw = below(2) == 0 ? below(words.length) : -1;
        StringBuilder text = new StringBuilder();
        for (int i = 0; i < words.length; i++) {
            String word = words[i];
            if (i == flaw) {
                String other = WORDS[below(WORDS.length)];
                int how = below(3);
                word = how == 0 ? "" : how == 1 ? other : word + " " + other;
            }
            // Two words of one sort need a blank; it can be left out elsewhere.
            boolean tight = below(2) == 0 && word.length() > 0 && i + 1 < words.length && differ(word, words[i + 1]);
            text.append(word).append(tight ? "" : below(8) == 0 && !shortOnes ? "   " : " ");
        }
        return text.toString();
    }

    private static boolean differ(String a, String b) {
        return sort(a.charAt(a.length() - 1)) != sort(b.charAt(0));
    }

    private static int sort(char sign) {
        return sign >= 'a' && sign <= 'z' ? 0 : sign >= '0' && sign <= '9' ? 1 : sign + 2;
    }

    private static String line(boolean shortOne) {
        String from = below(shortOne ? 8 : 2) == 0 ? "from " + from(0, 12) + " " : "";
        int what = below(4);
        int kind = from(0, 3) + (below(25) == 0 ? 1 : 0);
        if (what < 2 && !shortOne || what == 0) {
            int number = from(0, 9) + (below(25) == 0 ? 1 : 0);
            return from + "issue " + kind + " " + number + tests(shortOne) + " ; ";
        }
        int number = below(6) == 0 ? from(9990, 10010) : from(0, 20);
        return from + (what == 3 ? "price " : "life ") + kind + " " + number + " ; ";
    }

    private static String tests(boolean shortOne) {
        int many = shortOne ? 0 : below(5) == 0 ? 4 : below(4);
        StringBuilder text = new StringBuilder();
        for (int i = 0; i < many; i++) {
            String trait = new String[] {"rank", "duty", "climate"}[below(3)];
            int number = below(25) == 0 ? 10 : from(0, 5);
            text.append(i == 0 ? " if " : " and ").append(trait).append(" ").append("<>=".charAt(below(3)));
            text.append(" ").append(number);
        }
        return text.toString();
    }

    private static void type(String text) {
        int before = y.count(11);
        int end = Math.min(240, before + text.length());
        for (int at = 0; at < text.length(); at += 8) {
            long v = 0;
            for (int i = at; i < at + 8; i++) {
                v = v << 8 | (i < text.length() ? text.charAt(i) & 255 : ' ');
            }
            due("feed(" + v + ")", x.feed(v), y.feed(v));
        }
        due("end(" + end + ")", x.end(end), y.end(end));
    }

    private static void stepPieces(int how) {
        int p = p();
        int b = b();
        int store = store();
        switch (how) {
            case 0: day(); break;
            case 1: case 2: case 3: due("issue(" + p + ", " + b + ")", x.issue(p, b), y.issue(p, b)); break;
            case 4: due("back(" + p + ", " + store + ")", x.back(p, store), y.back(p, store)); break;
            case 5: due("move(" + p + ", " + store + ")", x.move(p, store), y.move(p, store)); break;
            case 6: piece(); break;
            case 7: road(); break;
            case 8: {
                int kind = kind();
                due("stock(" + store + ", " + kind + ")", x.stock(store, kind), y.stock(store, kind));
                int what = arg(0, 8);
                due("pieceOf(" + p + ", " + what + ")", x.pieceOf(p, what), y.pieceOf(p, what));
                break;
            }
            default:
                if (below(2) == 0) {
                    due("lost(" + p + ")", x.lost(p), y.lost(p));
                } else {
                    due("fail(" + p + ")", x.fail(p), y.fail(p));
                }
                break;
        }
    }

    private static void road() {
        int s = store();
        int t = store();
        int v = below(2) == 0 ? arg(0, 99) : from(48, 52);
        due("road(" + s + ", " + t + ", " + v + ")", x.road(s, t, v), y.road(s, t, v));
    }

    private static void stepParades(int how) {
        if (how < 2) {
            stepPieces(below(7));
            return;
        }
        if (how == 2) {
            measure();
            return;
        }
        int kind = kind();
        int e = below(4) == 0 ? arg(0, 99) : from(0, 12);
        int what = below(8) == 0 ? arg(0, 22) : below(3) == 0 ? from(0, 1) : 10 + b();
        due("parade(" + kind + ", " + e + ", " + what + ")", x.parade(kind, e, what), y.parade(kind, e, what));
    }

    private static void stepOrders(int how) {
        if (how < 2) {
            stepPieces(below(10));
            return;
        }
        if (how == 2) {
            road();
            return;
        }
        int kind = kind();
        int digits = below(40) == 0 ? EDGES[below(EDGES.length)] : below(60) == 0 ? from(0, 1 << 18) : digits(kind);
        if (how < 6) {
            due("order(" + kind + ", " + digits + ")", x.order(kind, digits), y.order(kind, digits));
        } else {
            int s = store();
            int t = store();
            due("ordered(" + kind + ", " + digits + ", " + s + ", " + t + ")", x.ordered(kind, digits, s, t),
                y.ordered(kind, digits, s, t));
        }
    }

    /** About as many as there are, in other stores. */
    private static int digits(int kind) {
        int all = 0;
        for (int s = 0; s < y.count(2); s++) {
            all += Math.max(0, y.stock(s, kind));
        }
        int digits = 0;
        for (int s = 0; s < y.count(2); s++) {
            int some = Math.min(15, below(all + 1));
            digits |= some << 4 * s;
            all -= some;
        }
        return digits;
    }

    private static void stepLots(int how) {
        int l = arg(0, 5);
        int what = arg(0, 3);
        if (how < 3) {
            int p = p();
            due("fail(" + p + ")", x.fail(p), y.fail(p));
        } else if (how == 3) {
            piece();
        } else if (how < 8) {
            due("lot(" + l + ", " + what + ")", x.lot(l, what), y.lot(l, what));
        } else {
            due("worst()", x.worst(), y.worst());
        }
    }

    private static void stepSheets(int how) {
        int k = below(4) > 0 ? 0 : arg(0, 3);
        int lane = arg(0, 2);
        if (how == 0) {
            int n = arg(0, 60);
            due("sheet(" + k + ", " + lane + ", " + n + ")", x.sheet(k, lane, n), y.sheet(k, lane, n));
        } else if (how == 1) {
            day();
        } else if (how < 7) {
            int i = arg(0, 40);
            int v = below(6) == 0 ? from(200, 300) : below(8) == 0 ? below(1 << 30) << 1 : arg(0, 120);
            due("lay(" + k + ", " + i + ", " + v + ")", x.lay(k, i, v), y.lay(k, i, v));
        } else {
            int f = arg(0, 30);
            due("scan(" + k + ", " + lane + ", " + f + ")", x.scan(k, lane, f), y.scan(k, lane, f));
        }
    }

    /** What can be asked without a change: all that is short, and of BODIES and PIECES as much as there are calls left. */
    private static void sameState() {
        for (int what = 0; what <= 12; what++) {
            due("count(" + what + ")", x.count(what), y.count(what));
        }
        for (int l = 0; l < 6; l++) {
            for (int what = 0; what < 4; what++) {
                due("lot(" + l + ", " + what + ")", x.lot(l, what), y.lot(l, what));
            }
        }
        due("worst()", x.worst(), y.worst());
        due("fault()", x.fault(), y.fault());
        while (calls < CALLS) {
            if (below(2) == 0) {
                int b = b();
                int what = from(0, 23);
                due("told(" + b + ", " + what + ")", x.told(b, what), y.told(b, what));
            } else {
                int p = p();
                int what = from(0, 8);
                due("pieceOf(" + p + ", " + what + ")", x.pieceOf(p, what), y.pieceOf(p, what));
            }
        }
    }

    /**
     * Six BODIES each far out on a side of its own, so that there is a SIZE for any set of them: who can have which PIECE
     * is free, as it hardly ever is by numbers from a seed.
     */
    private static void anyBodiesFit() {
        C.test("promise 29, against the model: any BODIES for each PIECE");
        for (int run = 0; run < 1500; run++) {
            seed = 9000 + run;
            newObjects();
            int bodies = from(1, 6);
            for (int b = 0; b < bodies; b++) {
                sideBody(b);
            }
            due("store()", x.store(), y.store());
            int dense = from(1, 4);
            int sizes = from(1, 7);
            for (int s = 0; s < sizes; s++) {
                sizeFor(dense);
                int shade = 60 + (run % 3 == 0 ? 0 : below(3));
                due("piece(0, " + s + ", 0, " + shade + ")", x.piece(0, s, 0, shade), y.piece(0, s, 0, shade));
            }
            int e = run % 3;
            for (int what = 0; what < 10 + bodies; what += what == 1 ? 9 : 1) {
                due("parade(0, " + e + ", " + what + ")", x.parade(0, e, what), y.parade(0, e, what));
            }
        }
    }

    /** All MEASURES are 100, but one that is 50 or 150. */
    private static void sideBody(int b) {
        due("body(0, 0, 0)", x.body(0, 0, 0), y.body(0, 0, 0));
        for (int what = 0; what < 3; what++) {
            int v = what != b / 2 ? 100 : b % 2 == 0 ? 50 : 150;
            due("measure(" + b + ", " + what + ", " + v + ", 0)", x.measure(b, what, v, 0), y.measure(b, what, v, 0));
        }
    }

    /** A SIZE that FITS each BODY or not: so many of five on the average. */
    private static void sizeFor(int dense) {
        int[] c = new int[6];
        for (int side = 0; side < 6; side++) {
            boolean fits = below(5) < dense;
            c[side] = !fits ? 100 : side % 2 == 0 ? 50 : 150;
        }
        due("size(0, ..)", x.size(0, c[0], c[1], c[2], c[3], c[4], c[5]), y.size(0, c));
    }

    private static final int MANY = 36;
    private static final int[] SHADES = new int[MANY];
    private static final boolean[][] SUITS = new boolean[12][MANY];

    /** Twelve BODIES and 36 PIECES are too many to try all ways: what was given is shown to be the best. */
    private static void largeParades() {
        C.test("promise 29: parades of twelve BODIES and 36 PIECES");
        for (int run = 0; run < 60; run++) {
            seed = 5000 + run;
            newObjects();
            x.store();
            int wide = from(1, 14);
            int[] low = new int[12];
            int[] high = new int[12];
            for (int s = 0; s < 12; s++) {
                low[s] = from(0, 40);
                high[s] = low[s] + below(wide);
                x.size(0, low[s], high[s], 0, 250, 0, 250);
            }
            int[] chest = new int[12];
            for (int b = 0; b < 12; b++) {
                chest[b] = from(0, 50);
                x.body(0, 0, 0);
                x.measure(b, 0, chest[b], 0);
            }
            for (int p = 0; p < MANY; p++) {
                int s = below(12);
                SHADES[p] = from(30, 70);
                x.piece(0, s, 0, SHADES[p]);
                for (int b = 0; b < 12; b++) {
                    SUITS[b][p] = chest[b] >= low[s] && chest[b] <= high[s];
                }
            }
            bestParade(from(0, 30));
        }
    }

    private static void bestParade(int e) {
        int most = 0;
        int first = -4;
        for (int a = 0; a < 100; a++) {
            int dressed = dressed(a, e, new int[0]);
            if (dressed > most) {
                most = dressed;
                first = a;
            }
        }
        due("parade(0, " + e + ", 0)", x.parade(0, e, 0), most);
        due("parade(0, " + e + ", 1)", x.parade(0, e, 1), first);
        int[] given = new int[0];
        for (int b = 0; b < 12; b++) {
            given = java.util.Arrays.copyOf(given, b + 1);
            given[b] = 0;
            while (given[b] < MANY && dressed(first, e, given) < most) {
                given[b]++;
            }
            due("parade(0, " + e + ", 10 + " + b + ")", x.parade(0, e, 10 + b), given[b] < MANY ? given[b] : -4);
        }
    }

    /** How many BODIES can be dressed if the first ones have what is given (36: none); -1: they can not. */
    private static int dressed(int a, int e, int[] given) {
        int[] holder = new int[MANY];
        java.util.Arrays.fill(holder, -1);
        int dressed = 0;
        for (int b = 0; b < given.length; b++) {
            if (given[b] < MANY) {
                if (holder[given[b]] >= 0 || !suits(b, given[b], a, e)) {
                    return -1;
                }
                holder[given[b]] = b;
                dressed++;
            }
        }
        for (int b = given.length; b < 12; b++) {
            dressed += finds(b, a, e, given.length, holder, new boolean[MANY]) ? 1 : 0;
        }
        return dressed;
    }

    private static boolean suits(int b, int p, int a, int e) {
        return SHADES[p] >= a && SHADES[p] <= a + e && SUITS[b][p];
    }

    /** The old way by recursion: who holds a PIECE looks for another one, but those that were given stay. */
    private static boolean finds(int b, int a, int e, int fixed, int[] holder, boolean[] seen) {
        for (int p = 0; p < MANY; p++) {
            if (seen[p] || holder[p] >= 0 && holder[p] < fixed || !suits(b, p, a, e)) {
                continue;
            }
            seen[p] = true;
            if (holder[p] < 0 || finds(holder[p], a, e, fixed, holder, seen)) {
                holder[p] = b;
                return true;
            }
        }
        return false;
    }

    /** Every call with any numbers on a full object, behind 512 calls too: the machine itself never throws. */
    private static void anyNumbers() {
        C.test("no call throws, whatever its numbers are");
        int[] all = {Integer.MIN_VALUE, -100, -1, 0, 1, 2, 3, 4, 5, 6, 9, 10, 11, 12, 13, 21, 22, 35, 36, 50, 59, 60, 61, 99, 100, 240,
            250, 9999, 10000, 65535, 65536, Integer.MAX_VALUE};
        seed = 77;
        java.lang.reflect.Method[] calls = ClothForce.class.getDeclaredMethods();
        java.util.Arrays.sort(calls, java.util.Comparator.comparing(java.lang.reflect.Method::getName));
        for (int run = 0; run < 60; run++) {
            x = new ClothForce();
            for (int turn = 0; turn < 2000; turn++) {
                java.lang.reflect.Method call = calls[below(calls.length)];
                if (java.lang.reflect.Modifier.isPublic(call.getModifiers())) {
                    callAny(call, all, run % 3 == 0 ? all.length : 8);
                }
            }
        }
    }

    private static void callAny(java.lang.reflect.Method call, int[] all, int upTo) {
        Object[] numbers = new Object[call.getParameterCount()];
        for (int i = 0; i < numbers.length; i++) {
            int v = all[below(upTo)];
            numbers[i] = call.getParameterTypes()[i] == long.class ? (Object) (long) v : (Object) v;
        }
        try {
            call.invoke(x, numbers);
        } catch (ReflectiveOperationException e) {
            due(call.getName() + java.util.Arrays.toString(numbers) + " threw " + e.getCause(), 1, 0);
        }
    }
}
