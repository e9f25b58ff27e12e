import java.math.BigInteger;
import java.util.ArrayList;
import java.util.HashMap;
import java.util.List;
import java.util.Map;

/**
 * The document once more, in the plainest words: everything is searched by trying all there is.
 * It shares no line with ClothForce, so that both agree only where both read the document alike.
 */
final class Model {
    static final int BAD = -1, STATE = -2, FULL = -3, NONE = -4;

    private record Measure(int body, int what, int value, int from, int told) { }

    private record Size(int kind, int[] low, int[] high) { }

    private record Test(int trait, char sign, int number) { }

    private record Line(String rule, int from, int kind, int number, List<Test> tests) { }

    /** From day 'from' to day 'to' (-1: still) with a body. */
    private static final class Stay {
        int body;
        int from;
        int to = -1;
    }

    private static final class Piece {
        int size;
        int lot;
        int shade;
        int store;
        boolean failed;
        final List<Stay> stays = new ArrayList<>();

        boolean isWith() {
            return !stays.isEmpty() && stays.get(stays.size() - 1).to < 0;
        }

        int body() {
            return isWith() ? lastBody() : NONE;
        }

        int lastBody() {
            return stays.isEmpty() ? NONE : stays.get(stays.size() - 1).body;
        }
    }

    private static final class Fault extends RuntimeException {
        private static final long serialVersionUID = 1;
        final int number;
        final int place;

        Fault(int number, int place) {
            this.number = number;
            this.place = place;
        }
    }

    private int today;
    private int fault;
    private final List<int[]> bodies = new ArrayList<>();
    private final List<Integer> charges = new ArrayList<>();
    private final List<Measure> measures = new ArrayList<>();
    private final List<Size> sizes = new ArrayList<>();
    private StringBuilder tape = new StringBuilder();
    private List<Line> lines = new ArrayList<>();
    private int stores;
    private final Map<Integer, Integer> roads = new HashMap<>();
    private final List<Piece> pieces = new ArrayList<>();
    private final long[][] sheets = new long[4][];
    private final int[] lanes = new int[4];

    private static boolean in(int v, int a, int b) {
        return a <= v && v <= b;
    }

    private boolean isBody(int b) {
        return in(b, 0, bodies.size() - 1);
    }

    private boolean isStore(int s) {
        return in(s, 0, stores - 1);
    }

    private boolean isPiece(int p) {
        return in(p, 0, pieces.size() - 1);
    }

    int day(int d) {
        if (!in(d, today, 9999)) {
            return BAD;
        }
        int was = today;
        today = d;
        return was;
    }

    int body(int rank, int duty, int climate) {
        if (!in(rank, 0, 5) || !in(duty, 0, 3) || !in(climate, 0, 2)) {
            return BAD;
        }
        if (bodies.size() == 12) {
            return FULL;
        }
        bodies.add(new int[] {rank, duty, climate});
        charges.add(0);
        return bodies.size() - 1;
    }

    int becomes(int b, int what, int v) {
        if (!isBody(b) || !in(what, 0, 2) || !in(v, 0, what == 0 ? 5 : what == 1 ? 3 : 2)) {
            return BAD;
        }
        int was = bodies.get(b)[what];
        bodies.get(b)[what] = v;
        return was;
    }

    int measure(int b, int what, int v, int from) {
        if (!isBody(b) || !in(what, 0, 2) || !in(v, 0, 250) || !in(from, 0, 9999)) {
            return BAD;
        }
        if (measures.size() == 60) {
            return FULL;
        }
        measures.add(new Measure(b, what, v, from, today));
        return measures.size();
    }

    int known(int b, int what, int k, int d) {
        if (!isBody(b) || !in(what, 0, 2) || !in(k, 0, 9999) || !in(d, 0, 9999)) {
            return BAD;
        }
        for (int day = d; day >= 0; day--) {
            for (int i = measures.size() - 1; i >= 0; i--) {
                Measure m = measures.get(i);
                if (m.body == b && m.what == what && m.told <= k && m.from == day) {
                    return m.value;
                }
            }
        }
        return 0;
    }

    private int now(int b, int what) {
        int best = 0;
        int day = -1;
        for (Measure m : measures) {
            if (m.body == b && m.what == what && m.from <= today && m.from >= day) {
                day = m.from;
                best = m.value;
            }
        }
        return best;
    }

    int told(int b, int what) {
        if (!isBody(b)) {
            return BAD;
        }
        switch (what) {
            case 0: case 1: case 2: return bodies.get(b)[what];
            case 3: case 4: case 5: return known(b, what - 3, today, today);
            case 6: return (int) pieces.stream().filter(p -> p.body() == b).count();
            case 7: return charges.get(b);
            case 10: case 11: case 12: case 13: return has(b, what - 10);
            case 20: case 21: case 22: case 23: return due(b, what - 20, today);
            default: return BAD;
        }
    }

    private int has(int b, int kind) {
        int n = 0;
        for (Piece p : pieces) {
            if (p.body() == b && sizes.get(p.size).kind == kind && worn(p) < rule(kind, 0, today)) {
                n++;
            }
        }
        return n;
    }

    private int worn(Piece p) {
        int n = 0;
        for (Stay s : p.stays) {
            n += (s.to < 0 ? today : s.to) - s.from;
        }
        return n;
    }

    int size(int kind, int... c) {
        if (!in(kind, 0, 3)) {
            return BAD;
        }
        for (int i = 0; i < 6; i += 2) {
            if (!in(c[i], 0, 250) || !in(c[i + 1], 0, 250) || c[i] > c[i + 1]) {
                return BAD;
            }
        }
        if (sizes.size() == 12) {
            return FULL;
        }
        sizes.add(new Size(kind, new int[] {c[0], c[2], c[4]}, new int[] {c[1], c[3], c[5]}));
        return sizes.size() - 1;
    }

    private boolean fit(int s, int b, int e) {
        for (int w = 0; w < 3; w++) {
            int v = now(b, w);
            if (v < sizes.get(s).low[w] - e || v > sizes.get(s).high[w] + e) {
                return false;
            }
        }
        return true;
    }

    int fits(int s, int b, int e) {
        if (!in(s, 0, sizes.size() - 1) || !isBody(b) || !in(e, 0, 50)) {
            return BAD;
        }
        return fit(s, b, e) ? 1 : 0;
    }

    int sized(int b, int kind, int e, int what) {
        if (!isBody(b) || !in(kind, 0, 3) || !in(what, 0, 2) || what < 2 && !in(e, 0, 50)) {
            return BAD;
        }
        for (int leeway = 0; what == 2 && leeway <= 50; leeway++) {
            if (sized(b, kind, leeway, 0) > 0) {
                return leeway;
            }
        }
        List<Integer> all = new ArrayList<>();
        for (int s = 0; what < 2 && s < sizes.size(); s++) {
            if (sizes.get(s).kind == kind && fit(s, b, e)) {
                all.add(s);
            }
        }
        return what == 0 ? all.size() : all.isEmpty() ? NONE : all.get(0);
    }

    int chosen(int kind, int n, int what) {
        if (!in(kind, 0, 3) || !in(n, 0, 10) || !in(what, 0, 2)) {
            return BAD;
        }
        int of = 0;
        int[] fitted = new int[sizes.size()];
        for (int s = 0; s < sizes.size(); s++) {
            of |= sizes.get(s).kind == kind ? 1 << s : 0;
            for (int b = 0; b < bodies.size(); b++) {
                fitted[s] |= fit(s, b, 0) ? 1 << b : 0;
            }
        }
        if (Integer.bitCount(of) > 10) {
            return STATE;
        }
        int best = 0;
        int bestFitted = 0;
        for (int set = (1 << sizes.size()) - 1; set >= 0; set--) {
            if ((set & ~of) != 0 || Integer.bitCount(set) > n) {
                continue;
            }
            int f = 0;
            for (int s = 0; s < sizes.size(); s++) {
                f |= (set >> s & 1) == 1 ? fitted[s] : 0;
            }
            int more = Integer.bitCount(f) - Integer.bitCount(bestFitted);
            int fewer = Integer.bitCount(best) - Integer.bitCount(set);
            if (more > 0 || more == 0 && (fewer > 0 || fewer == 0 && set < best)) {
                best = set;
                bestFitted = f;
            }
        }
        return what == 0 ? Integer.bitCount(bestFitted) : what == 1 ? best : (1 << bodies.size()) - 1 - bestFitted;
    }

    int feed(long v) {
        if (tape.length() > 232) {
            return FULL;
        }
        for (byte b : java.nio.ByteBuffer.allocate(8).putLong(v).array()) {
            tape.append((char) (b & 255));
        }
        return tape.length();
    }

    int end(int n) {
        if (!in(n, 0, tape.length())) {
            return BAD;
        }
        int was = tape.length();
        tape.setLength(n);
        return was;
    }

    // ---- the text, read sign by sign

    private String signs;
    private int at;
    private int tokenAt;
    private String token;

    /** The next TOKEN; "" at the end. */
    private void next() {
        while (at < signs.length() && signs.charAt(at) == ' ') {
            at++;
        }
        tokenAt = at;
        if (at == signs.length()) {
            token = "";
            return;
        }
        String rest = signs.substring(at);
        String kind = rest.matches("(?s)[a-z].*") ? "[a-z]" : rest.matches("(?s)[0-9].*") ? "[0-9]" : null;
        int n = 1;
        while (kind != null && n < rest.length() && rest.substring(n, n + 1).matches(kind)) {
            n++;
        }
        token = rest.substring(0, n);
        at += n;
        if (!token.matches("from|issue|life|price|if|and|rank|duty|climate|[0-9]{1,4}|[<>=;]")) {
            throw new Fault(1, tokenAt);
        }
    }

    private String take(String which) {
        if (!token.matches(which)) {
            throw new Fault(2, tokenAt);
        }
        String taken = token;
        next();
        return taken;
    }

    private int takeNumber(int a, int b) {
        if (!token.matches("[0-9]+")) {
            throw new Fault(2, tokenAt);
        }
        int n = Integer.parseInt(token);
        if (!in(n, a, b)) {
            throw new Fault(3, tokenAt);
        }
        next();
        return n;
    }

    private Line line(List<Line> ahead) {
        if (!token.matches("from|issue|life|price")) {
            throw new Fault(2, tokenAt);
        }
        if (ahead.size() == 12) {
            throw new Fault(4, tokenAt);
        }
        int from = 0;
        if (token.equals("from")) {
            next();
            from = takeNumber(0, 9999);
        }
        String rule = take("issue|life|price");
        int kindAt = tokenAt;
        boolean inBounds = token.matches("0*[0-3]");
        for (Line l : ahead) {
            if (inBounds && !rule.equals("issue") && l.rule.equals(rule) && l.kind == Integer.parseInt(token) && l.from == from) {
                throw new Fault(5, kindAt);
            }
        }
        int kind = takeNumber(0, 3);
        int number = takeNumber(rule.equals("life") ? 1 : 0, rule.equals("issue") ? 9 : 9999);
        List<Test> tests = new ArrayList<>();
        if (rule.equals("issue") && token.equals("if")) {
            do {
                next();
                if (tests.size() == 3 && token.matches("rank|duty|climate")) {
                    throw new Fault(4, tokenAt);
                }
                int trait = List.of("rank", "duty", "climate").indexOf(take("rank|duty|climate"));
                char sign = take("[<>=]").charAt(0);
                tests.add(new Test(trait, sign, takeNumber(0, 9)));
            } while (token.equals("and"));
        }
        take(";");
        return new Line(rule, from, kind, number, tests);
    }

    int text() {
        signs = tape.toString();
        tape = new StringBuilder();
        at = 0;
        fault = 0;
        List<Line> read = new ArrayList<>();
        try {
            next();
            while (!token.isEmpty()) {
                read.add(line(read));
            }
        } catch (Fault f) {
            fault = f.number;
            return -10 - f.place;
        }
        lines = read;
        return lines.size();
    }

    int fault() {
        return fault;
    }

    private boolean holds(Line l, int b) {
        for (Test t : l.tests) {
            int v = bodies.get(b)[t.trait];
            if (t.sign == '<' ? v >= t.number : t.sign == '>' ? v <= t.number : v != t.number) {
                return false;
            }
        }
        return true;
    }

    int why(int b, int kind, int day) {
        if (!isBody(b) || !in(kind, 0, 3) || !in(day, 0, 9999)) {
            return BAD;
        }
        for (int n = 9; n >= 0; n--) {
            for (int i = 0; i < lines.size(); i++) {
                Line l = lines.get(i);
                if (l.rule.equals("issue") && l.kind == kind && l.number == n && l.from <= day && holds(l, b)) {
                    return i;
                }
            }
        }
        return NONE;
    }

    int due(int b, int kind, int day) {
        int by = why(b, kind, day);
        return by == BAD ? BAD : by == NONE ? 0 : lines.get(by).number;
    }

    int rule(int kind, int what, int day) {
        if (!in(kind, 0, 3) || !in(what, 0, 1) || !in(day, 0, 9999)) {
            return BAD;
        }
        Line best = null;
        for (Line l : lines) {
            boolean of = l.rule.equals(what == 0 ? "life" : "price") && l.kind == kind && l.from <= day;
            if (of && (best == null || l.from > best.from)) {
                best = l;
            }
        }
        return best != null ? best.number : what == 0 ? 365 : 100;
    }

    int store() {
        return stores == 4 ? FULL : stores++;
    }

    private int roadOf(int s, int t) {
        return roads.getOrDefault(10 * Math.min(s, t) + Math.max(s, t), 50);
    }

    int road(int s, int t, int v) {
        if (!isStore(s) || !isStore(t) || s == t || !in(v, 0, 99)) {
            return BAD;
        }
        int was = roadOf(s, t);
        roads.put(10 * Math.min(s, t) + Math.max(s, t), v);
        return was;
    }

    int piece(int store, int size, int lot, int shade) {
        if (!isStore(store) || !in(size, 0, sizes.size() - 1) || !in(lot, 0, 5) || !in(shade, 0, 99)) {
            return BAD;
        }
        if (pieces.size() == 36) {
            return FULL;
        }
        Piece p = new Piece();
        p.size = size;
        p.lot = lot;
        p.shade = shade;
        p.store = store;
        pieces.add(p);
        return pieces.size() - 1;
    }

    int pieceOf(int n, int what) {
        if (!isPiece(n) || !in(what, 0, 8)) {
            return BAD;
        }
        Piece p = pieces.get(n);
        int[] all = {p.size, p.lot, p.shade, p.store, p.body(), worn(p), p.stays.size(), p.failed ? 1 : 0, p.lastBody()};
        return all[what];
    }

    int issue(int n, int b) {
        if (!isPiece(n) || !isBody(b)) {
            return BAD;
        }
        Piece p = pieces.get(n);
        int kind = sizes.get(p.size).kind;
        if (p.store < 0 || !fit(p.size, b, 5) || worn(p) >= rule(kind, 0, today) || has(b, kind) >= due(b, kind, today)) {
            return STATE;
        }
        p.store = NONE;
        Stay s = new Stay();
        s.body = b;
        s.from = today;
        p.stays.add(s);
        return fit(p.size, b, 0) ? 1 : 0;
    }

    private void leave(Piece p) {
        if (p.isWith()) {
            p.stays.get(p.stays.size() - 1).to = today;
        }
        p.store = NONE;
    }

    int back(int n, int store) {
        if (!isPiece(n) || !isStore(store)) {
            return BAD;
        }
        Piece p = pieces.get(n);
        if (!p.isWith()) {
            return STATE;
        }
        leave(p);
        p.store = store;
        return worn(p);
    }

    int lost(int n) {
        if (!isPiece(n)) {
            return BAD;
        }
        Piece p = pieces.get(n);
        if (!p.isWith()) {
            return STATE;
        }
        int kind = sizes.get(p.size).kind;
        int life = rule(kind, 0, today);
        int charge = (int) Math.floor((double) rule(kind, 1, today) * Math.max(life - worn(p), 0) / life + 1e-9);
        charges.set(p.body(), charges.get(p.body()) + charge);
        leave(p);
        return charge;
    }

    int move(int n, int store) {
        if (!isPiece(n) || !isStore(store) || pieces.get(n).store == store) {
            return BAD;
        }
        Piece p = pieces.get(n);
        if (p.store < 0) {
            return STATE;
        }
        int road = roadOf(p.store, store);
        p.store = store;
        return road;
    }

    int fail(int n) {
        if (!isPiece(n)) {
            return BAD;
        }
        Piece p = pieces.get(n);
        if (p.store < 0 && !p.isWith()) {
            return STATE;
        }
        leave(p);
        p.failed = true;
        return worn(p);
    }

    int stock(int store, int kind) {
        if (!isStore(store) || !in(kind, 0, 3)) {
            return BAD;
        }
        return (int) pieces.stream().filter(p -> p.store == store && sizes.get(p.size).kind == kind).count();
    }

    // ---- the parade: all ways, body by body, the least piece first and none last

    private int bestCount;
    private int[] best;
    private int[] tried;

    private void tryBody(int b, int count, int kind, List<Integer> free) {
        if (count + Math.min(bodies.size() - b, free.size()) <= bestCount) {
            return;
        }
        if (b == bodies.size()) {
            bestCount = count;
            best = tried.clone();
            return;
        }
        for (int i = 0; i < free.size(); i++) {
            if (fit(pieces.get(free.get(i)).size, b, 0)) {
                List<Integer> left = new ArrayList<>(free);
                tried[b] = left.remove(i);
                tryBody(b + 1, count + 1, kind, left);
            }
        }
        tried[b] = NONE;
        tryBody(b + 1, count, kind, free);
    }

    int parade(int kind, int e, int what) {
        if (!in(kind, 0, 3) || !in(e, 0, 99) || !in(what, 0, 1) && (what < 10 || !isBody(what - 10))) {
            return BAD;
        }
        bestCount = 0;
        best = new int[bodies.size()];
        java.util.Arrays.fill(best, NONE);
        int a = NONE;
        List<Integer> last = new ArrayList<>();
        for (int first = 0; first < 100; first++) {
            List<Integer> window = new ArrayList<>();
            for (int n = 0; n < pieces.size(); n++) {
                Piece p = pieces.get(n);
                if (p.store >= 0 && sizes.get(p.size).kind == kind && in(p.shade, first, first + e)) {
                    window.add(n);
                }
            }
            int before = bestCount;
            tried = new int[bodies.size()];
            if (!window.equals(last)) {
                tryBody(0, 0, kind, window);
            }
            last = window;
            a = bestCount > before ? first : a;
        }
        return what == 0 ? bestCount : what == 1 ? a : best[what - 10];
    }

    // ---- the order: all tables of numbers moved, in the order in which the least is told

    private int leastCost;
    private int[][] plan;

    private void tryLane(int lane, int cost, int[] have, int[] want, int[][] moved) {
        int from = lane / 4;
        int to = lane % 4;
        if (lane == 16) {
            for (int s = 0; s < stores; s++) {
                if (have[s] < want[s]) {
                    return;
                }
            }
            if (leastCost == NONE || cost < leastCost) {
                leastCost = cost;
                plan = new int[][] {moved[0].clone(), moved[1].clone(), moved[2].clone(), moved[3].clone()};
            }
            return;
        }
        int most = from == to ? 0 : Math.max(0, Math.min(have[from] - want[from], want[to] - have[to]));
        for (int n = 0; n <= most; n++) {
            have[from] -= n;
            have[to] += n;
            moved[from][to] = n;
            tryLane(lane + 1, cost + n * roadOf(from, to), have, want, moved);
            have[from] += n;
            have[to] -= n;
        }
        moved[from][to] = 0;
    }

    private int planned(int kind, int digits) {
        if (!in(kind, 0, 3) || digits < 0) {
            return BAD;
        }
        int[] have = new int[4];
        int[] want = new int[4];
        String hex = Integer.toHexString(digits);
        for (int i = 0; i < hex.length(); i++) {
            int v = Character.digit(hex.charAt(hex.length() - 1 - i), 16);
            if (i >= stores && v > 0) {
                return BAD;
            }
            if (i < 4) {
                want[i] = v;
            }
        }
        for (int s = 0; s < stores; s++) {
            have[s] = stock(s, kind);
        }
        leastCost = NONE;
        tryLane(0, 0, have, want, new int[4][4]);
        return leastCost == NONE ? NONE : 0;
    }

    int order(int kind, int digits) {
        int answer = planned(kind, digits);
        return answer < 0 ? answer : leastCost;
    }

    int ordered(int kind, int digits, int from, int to) {
        if (!isStore(from) || !isStore(to)) {
            return BAD;
        }
        int answer = planned(kind, digits);
        return answer < 0 ? answer : plan[from][to];
    }

    // ---- lots

    private static BigInteger draws(int n, int k) {
        if (k < 0 || k > n) {
            return BigInteger.ZERO;
        }
        return k == 0 || k == n ? BigInteger.ONE : fac(n).divide(fac(k)).divide(fac(n - k));
    }

    private static BigInteger fac(int n) {
        return n < 2 ? BigInteger.ONE : fac(n - 1).multiply(BigInteger.valueOf(n));
    }

    private int inLot(int l, boolean failed) {
        return (int) pieces.stream().filter(p -> p.lot == l && (!failed || p.failed)).count();
    }

    private BigInteger[] chance(int l) {
        int all = pieces.size();
        int bad = (int) pieces.stream().filter(p -> p.failed).count();
        int n = inLot(l, false);
        BigInteger sum = BigInteger.ZERO;
        for (int k = inLot(l, true); k <= bad; k++) {
            sum = sum.add(draws(n, k).multiply(draws(all - n, bad - k)));
        }
        BigInteger whole = draws(all, bad);
        BigInteger common = sum.gcd(whole);
        return new BigInteger[] {sum.divide(common), whole.divide(common)};
    }

    long lot(int l, int what) {
        if (!in(l, 0, 5) || !in(what, 0, 3)) {
            return BAD;
        }
        return what < 2 ? inLot(l, what == 1) : chance(l)[what - 2].longValueExact();
    }

    int worst() {
        if (pieces.stream().noneMatch(p -> p.failed)) {
            return NONE;
        }
        int worst = 0;
        for (int l = 1; l < 6; l++) {
            BigInteger[] a = chance(l);
            BigInteger[] b = chance(worst);
            worst = a[0].multiply(b[1]).compareTo(b[0].multiply(a[1])) < 0 ? l : worst;
        }
        return worst;
    }

    // ---- sheets

    int sheet(int k, int lane, int n) {
        if (!in(k, 0, 3) || !in(lane, 0, 2) || n > 60) {
            return BAD;
        }
        if (n < 0) {
            return -14;
        }
        sheets[k] = new long[n];
        lanes[k] = lane;
        return 1;
    }

    int lay(int k, int i, int v) {
        if (!in(k, 0, 3)) {
            return BAD;
        }
        if (sheets[k] == null) {
            return -11;
        }
        if (!in(i, 0, sheets[k].length - 1)) {
            return -12;
        }
        long whole = 1L << (8 << lanes[k]);
        long low = Math.floorMod((long) v, whole);
        sheets[k][i] = low >= whole / 2 ? low - whole : low;
        return 1;
    }

    int scan(int k, int lane, int f) {
        if (!in(k, 0, 3) || !in(lane, 0, 2)) {
            return BAD;
        }
        if (sheets[k] == null) {
            return -11;
        }
        if (lanes[k] != lane) {
            return -13;
        }
        List<Measure> read = new ArrayList<>();
        for (int i = 0; i < 3 * bodies.size(); i++) {
            long cell = (long) f + i;
            if (cell < 0 || cell >= sheets[k].length) {
                return -12;
            }
            long v = sheets[k][(int) cell];
            if (v < 0 || v > 250) {
                return -100 - i;
            }
            read.add(new Measure(i / 3, i % 3, (int) v, today, today));
        }
        if (measures.size() + read.size() > 60) {
            return FULL;
        }
        measures.addAll(read);
        return measures.size();
    }

    int count(int what) {
        int stored = (int) pieces.stream().filter(p -> p.store >= 0).count();
        int with = (int) pieces.stream().filter(Piece::isWith).count();
        switch (what) {
            case 0: return bodies.size();
            case 1: return sizes.size();
            case 2: return stores;
            case 3: return pieces.size();
            case 4: return stored;
            case 5: return with;
            case 6: return pieces.size() - stored - with;
            case 7: return lines.size();
            case 8: return measures.size();
            case 9: return today;
            case 10: return charges.stream().mapToInt(c -> c).sum();
            case 11: return tape.length();
            case 12: return sheets[0] == null ? NONE : sheets[0].length;
            default: return BAD;
        }
    }
}
