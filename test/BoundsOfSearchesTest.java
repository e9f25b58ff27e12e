/**
 * Promises 29 to 33: each sentence that names a bound, on both of its sides. A test's name tells the promise and, in
 * quotes, the sentence; what is refused, and what is only asked, leaves all as it was.
 */
public final class BoundsOfSearchesTest {
    private static final int BAD = -1, NONE = -4;
    private static final int LAST_STORE = Camp.STORES - 1;
    private static final Checks C = new Checks();
    private static final Bounds B = new Bounds(C);

    public static void main(String[] args) {
        parade();
        order();
        ordered();
        lot();
        worst();
        C.finish();
    }

    /** So many BODIES without MEASURES, two STORES, SIZE 0 of KIND 0 that FITS all; PIECES of these SHADES in STORE 0. */
    private static ClothForce line(int bodies, int... shades) {
        ClothForce x = new ClothForce();
        for (int b = 0; b < bodies; b++) {
            x.body(0, 0, 0);
        }
        x.store();
        x.store();
        Checks.wideSize(x, 0);
        for (int shade : shades) {
            x.piece(0, 0, 0, shade);
        }
        Checks.read(x, "issue 0 9;");
        return x;
    }

    private static void paradeIs(ClothForce x, int e, int bodies, int a, int... pieces) {
        C.due("parade(0, " + e + ", 0)", x.parade(0, e, 0), bodies);
        C.due("parade(0, " + e + ", 1)", x.parade(0, e, 1), a);
        for (int b = 0; b < pieces.length; b++) {
            C.due("parade(0, " + e + ", 10 + " + b + ")", x.parade(0, e, 10 + b), pieces[b]);
        }
    }

    // ---- promise 29

    private static void parade() {
        C.test("promise 29, 'KINDS 0 to 3'");
        B.between("parade(kind, 0, 0)", Camp::some, 0, 3, (x, kind) -> x.parade(kind, 0, 0));
        C.test("promise 29, 'EYES e (0 to 99)'");
        B.between("parade(0, e, 0)", Camp::some, 0, 99, (x, e) -> x.parade(0, e, 0));
        B.between("parade(0, e, 1)", Camp::some, 0, 99, (x, e) -> x.parade(0, e, 1));
        B.between("parade(0, e, 10)", Camp::some, 0, 99, (x, e) -> x.parade(0, e, 10));
        paradeWhat();
        C.test("promise 29, 'the first that fits': BAD ahead of NONE");
        C.due("parade(3, 0, 1)", Camp.some().parade(3, 0, 1), NONE);
        B.outside("parade(3, e, 1)", Camp::some, 0, 99, (x, e) -> x.parade(3, e, 1));
        B.outside("parade(3, e, 10)", Camp::some, 0, 99, (x, e) -> x.parade(3, e, 10));
        for (int what : new int[] {-1, 2, 9, 10 + Camp.BODIES}) {
            B.refused("parade(3, 0, " + what + ")", Camp::some, BAD, x -> x.parade(3, 0, what));
        }
        paradeNobody();
        paradeNobodyFits();
        paradeShades();
        paradeLeast();
        paradeEnds();
        paradeMost();
        paradeNotTwice();
        paradeNoneBehindAll();
        paradeLeastPiece();
        paradeInStores();
        paradeWornOut();
        paradeFits();
        paradeFitsNoMore();
        paradeAll();
    }

    private static void paradeWhat() {
        C.test("promise 29, 'what 0 .. 1 .. 10 and b': 2 to 9 are none, nor are 10 and a BODY that is not there");
        for (int what : new int[] {-1, 2, 9, 10 + Camp.BODIES, 22, Integer.MIN_VALUE, Integer.MAX_VALUE}) {
            B.refused("parade(0, 0, " + what + ")", Camp::some, BAD, x -> x.parade(0, 0, what));
        }
        for (int b = 0; b < 12; b++) {
            C.due("parade(0, 0, 10 + b) of 12 is told", Camp.fullOfBodies().parade(0, 0, 10 + b) == BAD ? 1 : 0, 0);
        }
        B.refused("parade(0, 0, 22) of 12", Camp::fullOfBodies, BAD, x -> x.parade(0, 0, 22));
        C.due("parade(0, 0, 10) without BODIES", new ClothForce().parade(0, 0, 10), BAD);
        C.due("parade(0, 0, 0) without BODIES", new ClothForce().parade(0, 0, 0), 0);
        B.refused("parade(0, 6, 0)", Camp::some, 2, x -> x.parade(0, 6, 0));
        B.refused("parade(0, 6, 10)", Camp::some, 1, x -> x.parade(0, 6, 10));
    }

    private static void paradeNobody() {
        C.test("promise 29, 'NONE (1): there are no BODIES in it': no BODY, no PIECE yet");
        paradeIs(new ClothForce(), 0, 0, NONE);
        paradeIs(new ClothForce(), 99, 0, NONE);
        paradeIs(line(0, 5, 5), 99, 0, NONE, BAD);
        paradeIs(line(2), 99, 0, NONE, NONE, NONE, BAD);
        paradeIs(line(1, 5), 0, 1, 5, 0, BAD);
        B.refused("parade(3, 9, 1)", Camp::some, NONE, x -> x.parade(3, 9, 1));
        B.refused("parade(3, 9, 11)", Camp::some, NONE, x -> x.parade(3, 9, 11));
    }

    private static void paradeNobodyFits() {
        C.test("promise 29, 'NONE (1): there are no BODIES in it': no PIECE that FITS, none of that KIND, none in a STORE");
        ClothForce x = line(1);
        x.size(0, 1, 5, 0, 0, 0, 0);
        x.size(1, 0, 0, 0, 0, 0, 0);
        x.piece(0, 1, 0, 0);
        x.piece(0, 2, 0, 0);
        paradeIs(x, 99, 0, NONE, NONE);
        C.due("parade(1, 99, 1)", x.parade(1, 99, 1), 0);
        x.piece(0, 0, 0, 3);
        paradeIs(x, 0, 1, 3, 2);
        x.issue(2, 0);
        paradeIs(x, 0, 0, NONE, NONE);
    }

    private static void paradeShades() {
        C.test("promise 29, 'all SHADES from a to a and e': e apart, and one more");
        for (int e = 0; e < 99; e += 7) {
            paradeIs(line(2, 0, e), e, 2, 0, 0, 1);
            paradeIs(line(2, 0, e + 1), e, 1, 0, 0, NONE);
            paradeIs(line(2, 99, 99 - e), e, 2, 99 - e, 0, 1);
            paradeIs(line(2, 99, 98 - e), e, 1, Math.max(0, 98 - 2 * e), 1, NONE);
        }
        paradeIs(line(2, 0, 99), 99, 2, 0, 0, 1);
        paradeIs(line(2, 0, 99), 98, 1, 0, 0, NONE);
    }

    private static void paradeLeast() {
        C.test("promise 29, 'the a (0 to 99) with the most BODIES, of several the least': at 0, e below a SHADE, between");
        int[] shades = {0, 1, 5, 50, 98, 99};
        for (int shade : shades) {
            for (int e : new int[] {0, 1, 4, 5, 6, 50, 98, 99}) {
                paradeIs(line(1, shade), e, 1, Math.max(0, shade - e), 0);
            }
        }
        paradeIs(line(1, 40, 40, 10), 0, 1, 10, 2);
        paradeIs(line(1, 10, 40, 40, 99, 99, 99), 0, 1, 10, 0);
        paradeIs(line(2, 10, 10, 40, 40, 40), 0, 2, 10, 0, 1);
        paradeIs(line(2, 10, 12, 40, 42), 2, 2, 10, 0, 1);
        paradeIs(line(2, 40, 42, 10, 12), 2, 2, 10, 2, 3);
        paradeIs(line(2, 40, 42, 10, 12), 3, 2, 9, 2, 3);
    }

    private static void paradeEnds() {
        C.test("promise 29, 'a (0 to 99)', 'a SHADE (0 to 99)': the first and the last");
        paradeIs(line(1, 0), 0, 1, 0, 0);
        paradeIs(line(1, 99), 0, 1, 99, 0);
        paradeIs(line(2, 99, 99), 0, 2, 99, 0, 1);
        paradeIs(line(2, 99, 0, 99), 0, 2, 99, 0, 2);
        paradeIs(line(1, 99), 99, 1, 0, 0);
    }

    private static void paradeMost() {
        C.test("promise 29, 'with the most BODIES': not with the most PIECES");
        ClothForce x = line(2, 80, 80);
        x.measure(1, 0, 9, 0);
        x.size(0, 0, 0, 0, 0, 0, 0);
        for (int i = 0; i < 5; i++) {
            x.piece(0, 1, 0, 10);
        }
        paradeIs(x, 0, 2, 80, 0, 1);
        paradeIs(x, 69, 2, 11, 0, 1);
        paradeIs(x, 70, 2, 10, 0, 1);
    }

    private static void paradeNotTwice() {
        C.test("promise 29, '(no PIECE for two)': one PIECE fewer than BODIES, as many, one more");
        paradeIs(line(3, 7, 7), 0, 2, 7, 0, 1, NONE);
        paradeIs(line(3, 7, 7, 7), 0, 3, 7, 0, 1, 2);
        paradeIs(line(3, 7, 7, 7, 7), 0, 3, 7, 0, 1, 2);
        ClothForce x = line(3, 7);
        x.measure(0, 0, 9, 0);
        x.size(0, 9, 9, 0, 0, 0, 0);
        x.piece(0, 1, 0, 7);
        x.piece(0, 1, 0, 7);
        // PIECES 1 and 2 FIT BODY 0 alone, so that 1 and 2 have PIECE 0 alone.
        paradeIs(x, 0, 2, 7, 1, 0, NONE);
    }

    private static void paradeNoneBehindAll() {
        C.test("promise 29, '(none behind all)': the last BODY gets none, the first only if it must");
        paradeIs(line(2, 4), 0, 1, 4, 0, NONE);
        ClothForce x = line(3);
        x.measure(0, 0, 9, 0);
        x.size(0, 0, 0, 0, 0, 0, 0);
        x.piece(0, 1, 0, 4);
        // PIECE 0 FITS BODIES 1 and 2 alone.
        paradeIs(x, 0, 1, 4, NONE, 0, NONE);
        x.piece(0, 0, 0, 4);
        paradeIs(x, 0, 2, 4, 1, 0, NONE);
    }

    private static void paradeLeastPiece() {
        C.test("promise 29, 'with as many BODIES, BODY 0 the least PIECE, BODY 1, and so on': never for one BODY fewer");
        ClothForce x = line(2, 4, 4, 4);
        paradeIs(x, 0, 2, 4, 0, 1);
        ClothForce y = line(2);
        y.measure(0, 0, 9, 0);
        y.size(0, 9, 9, 0, 0, 0, 0);
        y.piece(0, 0, 0, 4);
        y.piece(0, 1, 0, 4);
        // PIECE 0 FITS both, 1 BODY 0 alone: BODY 0 can not have the least one.
        paradeIs(y, 0, 2, 4, 1, 0);
        y.piece(0, 0, 0, 4);
        paradeIs(y, 0, 2, 4, 0, 2);
    }

    private static void paradeInStores() {
        C.test("promise 29, 'a PIECE of that KIND in a STORE': in any, with no BODY, not GONE");
        ClothForce x = line(3, 6, 6, 6, 6);
        paradeIs(x, 0, 3, 6, 0, 1, 2);
        x.issue(0, 0);
        paradeIs(x, 0, 3, 6, 1, 2, 3);
        x.move(1, 1);
        paradeIs(x, 0, 3, 6, 1, 2, 3);
        x.fail(2);
        paradeIs(x, 0, 2, 6, 1, 3, NONE);
        x.lost(0);
        paradeIs(x, 0, 2, 6, 1, 3, NONE);
        C.due("count(4): none is issued by it", x.count(4), 2);
    }

    private static void paradeWornOut() {
        C.test("promise 29, 'a PIECE of that KIND in a STORE': worn out ones too, whatever is DUE");
        ClothForce x = line(1, 6);
        Checks.read(x, "issue 0 1;life 0 1;");
        x.issue(0, 0);
        x.day(5);
        x.back(0, 1);
        Checks.read(x, "life 0 1;");
        C.due("issue(0, 0)", x.issue(0, 0), -2);
        paradeIs(x, 0, 1, 6, 0);
    }

    private static void paradeFits() {
        C.test("promise 29, 'whose SIZE FITS': the least, the greatest, just outside, for THE DAY");
        for (int what = 0; what < 3; what++) {
            for (int v = 59; v <= 71; v++) {
                ClothForce x = line(1);
                int[] least = new int[3];
                int[] greatest = new int[3];
                least[what] = 60;
                greatest[what] = 70;
                x.size(0, least[0], greatest[0], least[1], greatest[1], least[2], greatest[2]);
                x.piece(0, 1, 0, 6);
                x.measure(0, what, v, 3);
                x.day(2);
                paradeIs(x, 0, 0, NONE, NONE);
                x.day(3);
                boolean fits = v >= 60 && v <= 70;
                paradeIs(x, 0, fits ? 1 : 0, fits ? 6 : NONE, fits ? 0 : NONE);
            }
        }
    }

    private static void paradeFitsNoMore() {
        C.test("promise 29, 'whose SIZE FITS': a BODY that FITTED the day ahead, another KIND asked between");
        ClothForce x = line(2);
        x.size(0, 1, 9, 0, 0, 0, 0);
        x.size(1, 0, 250, 0, 0, 0, 0);
        x.piece(0, 1, 0, 5);
        x.piece(0, 2, 0, 5);
        x.measure(0, 0, 9, 0);
        x.measure(1, 0, 10, 0);
        x.measure(0, 0, 10, 1);
        x.measure(1, 0, 9, 1);
        paradeIs(x, 0, 1, 5, 0, NONE);
        C.due("parade(1, 0, 10)", x.parade(1, 0, 10), 1);
        x.day(1);
        paradeIs(x, 0, 1, 5, NONE, 0);
        C.due("parade(1, 0, 11)", x.parade(1, 0, 11), NONE);
        x.measure(1, 0, 11, 1);
        paradeIs(x, 0, 0, NONE, NONE, NONE);
    }

    private static void paradeAll() {
        C.test("promise 29, 'BODIES (12)', 'PIECES (36)': all of them");
        int[] shades = new int[36];
        for (int p = 0; p < 36; p++) {
            shades[p] = p < 24 ? 2 * p : 80;
        }
        paradeIs(line(12, shades), 0, 12, 80, 24, 25, 26, 27, 28, 29, 30, 31, 32, 33, 34, 35);
        paradeIs(line(12, shades), 21, 12, 59, 24, 25, 26, 27, 28, 29, 30, 31, 32, 33, 34, 35);
        paradeIs(line(12, shades), 22, 12, 0, 0, 1, 2, 3, 4, 5, 6, 7, 8, 9, 10, 11);
    }

    // ---- promise 30

    /** STORES with so many PIECES of KIND 0 each. */
    private static ClothForce stocked(int... held) {
        ClothForce x = new ClothForce();
        Checks.wideSize(x, 0);
        for (int s = 0; s < held.length; s++) {
            x.store();
            for (int i = 0; i < held[s]; i++) {
                x.piece(s, 0, 0, 0);
            }
        }
        return x;
    }

    private static void order() {
        C.test("promise 30, 'KINDS 0 to 3'");
        B.between("order(kind, 0)", Camp::some, 0, 3, (x, kind) -> x.order(kind, 0));
        orderDigits();
        orderBelow0();
        orderTooFew();
        orderBadAheadOfNone();
        orderNothingToMove();
        orderMoreMayStay();
        orderCost();
        orderStraight();
        orderLeast();
        orderDigitPlaces();
        orderOfItsKind();
        orderLarge();
    }

    private static void orderDigits() {
        C.test("promise 30, 'BAD: also more digits than STORES': as many as STORES, one more, of none to four");
        for (int stores = 0; stores <= 4; stores++) {
            int[] held = new int[stores];
            int most = (1 << 4 * stores) - 1;
            ClothForce x = stocked(held);
            C.due("order(0, 0) of " + stores, x.order(0, 0), 0);
            C.due("all digits 15 of " + stores, x.order(0, most), stores == 0 ? 0 : NONE);
            B.refused("one digit more than " + stores, () -> stocked(held), BAD, y -> y.order(0, most + 1));
            C.due("the last digit alone of " + stores, x.order(0, most ^ most >> 4), stores == 0 ? 0 : NONE);
            C.due("the greatest number of " + stores, x.order(0, Integer.MAX_VALUE), BAD);
            C.due("2 to 30 of " + stores, x.order(0, 1 << 30), BAD);
        }
    }

    private static void orderBelow0() {
        C.test("promise 30, 'BAD: below 0': 0, and -1");
        C.due("order(0, 0)", Camp.some().order(0, 0), 0);
        B.refused("order(0, -1)", Camp::some, BAD, x -> x.order(0, -1));
        B.refused("order(0, min)", Camp::some, BAD, x -> x.order(0, Integer.MIN_VALUE));
        B.refused("order(0, -1) of four", Camp::fullOfStores, BAD, x -> x.order(0, -1));
        B.refused("order(0, min + 1) of four", Camp::fullOfStores, BAD, x -> x.order(0, Integer.MIN_VALUE + 1));
        C.due("order(0, -1) of none", new ClothForce().order(0, -1), BAD);
    }

    private static void orderTooFew() {
        C.test("promise 30, 'NONE: there are too few in all': as many as are wanted, one fewer");
        C.due("3 of 3", stocked(2, 1).order(0, 0x12), 0);
        C.due("3 of 3, moved", stocked(2, 1).order(0, 0x30), 100);
        C.due("4 of 3", stocked(2, 1).order(0, 0x13), NONE);
        C.due("4 of 3, in one", stocked(2, 1).order(0, 0x04), NONE);
        C.due("1 of none", stocked(0, 0).order(0, 1), NONE);
        C.due("0 of none", stocked(0, 0).order(0, 0), 0);
        C.due("15 of 15", stocked(0, 15).order(0, 15), 15 * 50);
        C.due("15 of 14", stocked(0, 14).order(0, 15), NONE);
        C.due("30 of 30", stocked(30, 0).order(0, 0xff), 15 * 50);
        C.due("30 of 29", stocked(29, 0).order(0, 0xff), NONE);
        B.refused("order(0, 0x444)", Camp::some, NONE, x -> x.order(0, 0x444));
    }

    private static void orderBadAheadOfNone() {
        C.test("promise 30, 'the first that fits': BAD ahead of NONE");
        C.due("NONE", stocked(1, 0).order(0, 0xff), NONE);
        C.due("a digit more", stocked(1, 0).order(0, 0x1ff), BAD);
        C.due("KIND 4", stocked(1, 0).order(4, 0xff), BAD);
        C.due("KIND -1", stocked(1, 0).order(-1, 0xff), BAD);
    }

    private static void orderNothingToMove() {
        C.test("promise 30, 'MOVED is as many as is needed': none, as each STORE has what it is to have");
        C.due("as it is", stocked(1, 2, 3, 4).order(0, 0x4321), 0);
        C.due("one fewer in each", stocked(1, 2, 3, 4).order(0, 0x3210), 0);
        C.due("none at all", stocked(1, 2, 3, 4).order(0, 0), 0);
        B.refused("order(0, 0x102)", Camp::some, 10, x -> x.order(0, 0x102));
    }

    private static void orderMoreMayStay() {
        C.test("promise 30, '(what is more there may stay)': only what is needed is MOVED");
        C.due("1 of 9 is needed", stocked(9, 0).order(0, 0x10), 50);
        C.due("1 of 9 is needed, 8 are to be there", stocked(9, 0).order(0, 0x18), 50);
        C.due("9 of 9 are needed", stocked(9, 0).order(0, 0x90), 450);
        C.due("9 are to be there, 1 is needed", stocked(9, 0).order(0, 0x19), NONE);
    }

    private static void orderCost() {
        C.test("promise 30, 'COST of one: the ROAD (0 to 99; 50 at first, both ways alike)'");
        ClothForce x = stocked(2, 0);
        C.due("50 at first", x.order(0, 0x20), 100);
        x.road(0, 1, 0);
        C.due("a ROAD of 0", x.order(0, 0x20), 0);
        x.road(1, 0, 99);
        C.due("a ROAD of 99", x.order(0, 0x20), 198);
        ClothForce y = stocked(0, 2);
        y.road(0, 1, 3);
        C.due("the other way", y.order(0, 0x02), 6);
    }

    private static void orderStraight() {
        C.test("promise 30, 'straight from STORES that have more to ones that have less': no way over a third");
        ClothForce x = stocked(2, 0, 0);
        x.road(0, 2, 99);
        x.road(0, 1, 0);
        x.road(1, 2, 0);
        C.due("two from 0 to 2", x.order(0, 0x200), 198);
        ClothForce y = stocked(2, 1, 0);
        y.road(0, 2, 99);
        y.road(0, 1, 0);
        y.road(1, 2, 0);
        // STORE 1 has just what it is to have: its PIECE does not go on, for one from 0.
        C.due("one is to stay in 1", y.order(0, 0x110), 99);
        C.due("none is to stay in 1", y.order(0, 0x101), 0);
    }

    private static void orderLeast() {
        C.test("promise 30, 'The least COST': not of the nearest one first");
        ClothForce x = stocked(1, 1, 0, 0);
        x.road(0, 2, 1);
        x.road(0, 3, 2);
        x.road(1, 2, 3);
        x.road(1, 3, 99);
        C.due("0 to 3, 1 to 2", x.order(0, 0x1100), 5);
        C.due("0 to 2", x.order(0, 0x0100), 1);
        x.road(1, 3, 3);
        C.due("0 to 2, 1 to 3", x.order(0, 0x1100), 4);
    }

    private static void orderDigitPlaces() {
        C.test("promise 30, 'as digits to the base 16, STORE 0 the lowest': each place, 1 and 15");
        for (int s = 0; s < 4; s++) {
            for (int from = 0; from < 4; from++) {
                int[] held = new int[4];
                held[from] = 15;
                ClothForce x = stocked(held);
                C.due("1 in " + s, x.order(0, 1 << 4 * s), from == s ? 0 : 50);
                C.due("15 in " + s, x.order(0, 15 << 4 * s), from == s ? 0 : 750);
            }
        }
    }

    private static void orderOfItsKind() {
        C.test("promise 30, 'how many of a KIND': those in STORES alone, worn out ones too");
        ClothForce x = stocked(2, 0);
        Checks.wideSize(x, 3);
        x.piece(0, 1, 0, 0);
        C.due("2 of KIND 0", x.order(0, 0x20), 100);
        C.due("3 of KIND 0", x.order(0, 0x30), NONE);
        C.due("1 of KIND 3", x.order(3, 0x10), 50);
        C.due("2 of KIND 3", x.order(3, 0x20), NONE);
        x.body(0, 0, 0);
        Checks.read(x, "issue 0 1;life 0 1;");
        x.issue(0, 0);
        C.due("2 of KIND 0, one with a BODY", x.order(0, 0x20), NONE);
        x.day(5);
        x.back(0, 1);
        C.due("2 of KIND 0, one worn out", x.order(0, 0x20), 50);
        x.fail(1);
        C.due("2 of KIND 0, one FAILED", x.order(0, 0x20), NONE);
    }

    private static void orderLarge() {
        C.test("promise 30, 'PIECES (36)', 'ROAD 99': the greatest COST, the most to move");
        ClothForce x = stocked(36, 0, 0, 0);
        for (int s = 1; s < 4; s++) {
            x.road(0, s, 99);
        }
        C.due("36 of 36", x.order(0, 0xff60), 30 * 99 + 6 * 99);
        C.due("37 of 36", x.order(0, 0xff70), NONE);
        ClothForce y = stocked(12, 12, 12, 0);
        C.due("15 into 3", y.order(0, 0xf000), 750);
        C.due("15 into 3, 7 stay in each", y.order(0, 0xf777), 750);
        C.due("15 into 3, 8, 7, 7 stay", y.order(0, 0xf778), NONE);
    }

    // ---- promise 31

    private static void ordered() {
        C.test("promise 31, 'KINDS 0 to 3'");
        B.between("ordered(kind, 0, 0, 1)", Camp::some, 0, 3, (x, kind) -> x.ordered(kind, 0, 0, 1));
        C.test("promise 31, 'from a STORE'");
        B.between("ordered(0, 0, from, 0)", Camp::some, 0, LAST_STORE, (x, s) -> x.ordered(0, 0, s, 0));
        B.between("ordered(0, 0, from, 0) of 4", Camp::fullOfStores, 0, 3, (x, s) -> x.ordered(0, 0, s, 0));
        C.test("promise 31, 'to another one'");
        B.between("ordered(0, 0, 0, to)", Camp::some, 0, LAST_STORE, (x, s) -> x.ordered(0, 0, 0, s));
        B.between("ordered(0, 0, 0, to) of 4", Camp::fullOfStores, 0, 3, (x, s) -> x.ordered(0, 0, 0, s));
        orderedDigits();
        orderedNone();
        orderedOneStore();
        orderedOneWay();
        orderedSum();
        orderedTies();
        orderedMovesNothing();
    }

    private static void orderedDigits() {
        C.test("promise 31, 'BAD': below 0, more digits than STORES, of one to four STORES");
        for (int stores = 1; stores <= 4; stores++) {
            int[] held = new int[stores];
            int most = (1 << 4 * stores) - 1;
            C.due("all digits 15", stocked(held).ordered(0, most, 0, stores - 1), NONE);
            C.due("no digit", stocked(held).ordered(0, 0, 0, stores - 1), 0);
            B.refused("one digit more", () -> stocked(held), BAD, x -> x.ordered(0, most + 1, 0, 0));
            B.refused("below 0", () -> stocked(held), BAD, x -> x.ordered(0, -1, 0, 0));
            C.due("the least number", stocked(held).ordered(0, Integer.MIN_VALUE, 0, 0), BAD);
            C.due("the greatest number", stocked(held).ordered(0, Integer.MAX_VALUE, 0, 0), BAD);
        }
        C.due("no STORE", new ClothForce().ordered(0, 0, 0, 0), BAD);
    }

    private static void orderedNone() {
        C.test("promise 31, 'NONE likewise': as many as are wanted, one fewer; BAD ahead of it");
        C.due("3 of 3", stocked(3, 0).ordered(0, 0x30, 0, 1), 3);
        B.refused("4 of 3", () -> stocked(3, 0), NONE, x -> x.ordered(0, 0x40, 0, 1));
        B.refused("4 of 3, from 1 to 0", () -> stocked(3, 0), NONE, x -> x.ordered(0, 0x13, 1, 0));
        B.outside("ordered(0, 0x40, from, 1)", () -> stocked(3, 0), 0, 1, (x, s) -> x.ordered(0, 0x40, s, 1));
        B.outside("ordered(0, 0x40, 0, to)", () -> stocked(3, 0), 0, 1, (x, s) -> x.ordered(0, 0x40, 0, s));
        B.outside("ordered(kind, 0x40, 0, 1)", () -> stocked(3, 0), 0, 3, (x, kind) -> x.ordered(kind, 0x40, 0, 1));
    }

    private static void orderedOneStore() {
        C.test("promise 31, 'from a STORE to another one': from one to itself nothing is MOVED; NONE and BAD as elsewhere");
        ClothForce x = stocked(3, 0, 0, 0);
        for (int s = 0; s < 4; s++) {
            C.due("ordered(0, 0x1110, s, s)", x.ordered(0, 0x1110, s, s), 0);
            C.due("ordered(0, 0x1111, s, s)", x.ordered(0, 0x1111, s, s), NONE);
            C.due("ordered(0, 0x10000, s, s)", x.ordered(0, 0x10000, s, s), BAD);
        }
        C.due("ordered(0, 0, 4, 4)", x.ordered(0, 0, 4, 4), BAD);
        C.due("ordered(0, 0, -1, -1)", x.ordered(0, 0, -1, -1), BAD);
    }

    private static void orderedOneWay() {
        C.test("promise 31, 'So many are MOVED from a STORE to another one': one way alone, 1 and 15");
        for (int from = 0; from < 4; from++) {
            for (int to = 0; to < 4; to++) {
                int[] held = new int[4];
                held[from] = 15;
                ClothForce x = stocked(held);
                for (int i = 0; i < 16; i++) {
                    boolean that = from != to && i / 4 == from && i % 4 == to;
                    C.due("1 MOVED", x.ordered(0, 1 << 4 * to, i / 4, i % 4), that ? 1 : 0);
                    C.due("15 MOVED", x.ordered(0, 15 << 4 * to, i / 4, i % 4), that ? 15 : 0);
                }
            }
        }
    }

    private static void orderedSum() {
        C.test("promise 31, 'by that': as many come to a STORE as it has less, none to one that has more");
        ClothForce x = stocked(5, 2, 4, 0);
        x.road(0, 3, 30);
        x.road(2, 3, 20);
        int[][] due = {{0, 1, 0, 2}, {0, 0, 0, 0}, {0, 0, 0, 3}, {0, 0, 0, 0}};
        C.due("order(0, 0x5132)", x.order(0, 0x5132), 50 + 60 + 60);
        for (int from = 0; from < 4; from++) {
            for (int to = 0; to < 4; to++) {
                C.due("ordered(0, 0x5132, " + from + ", " + to + ")", x.ordered(0, 0x5132, from, to), due[from][to]);
            }
        }
    }

    private static void orderedTies() {
        C.test("promise 31, 'the least number from 0 to 1, then from 0 to 2, .. (by the STORE from which, then to which)'");
        ClothForce x = stocked(0, 3, 3, 3);
        // All ROADS are alike: what comes to 0 comes from the last STORE first.
        int[] wanted = {0x0003, 0x0005, 0x0007};
        int[][] from = {{0, 0, 3}, {0, 2, 3}, {1, 3, 3}};
        for (int i = 0; i < wanted.length; i++) {
            for (int s = 1; s < 4; s++) {
                C.due("ordered(0, " + wanted[i] + ", " + s + ", 0)", x.ordered(0, wanted[i], s, 0), from[i][s - 1]);
            }
        }
        ClothForce y = stocked(4, 0, 4, 0);
        int[][] due = {{0, 0, 0, 2}, {0, 0, 0, 0}, {0, 3, 0, 1}, {0, 0, 0, 0}};
        for (int s = 0; s < 4; s++) {
            for (int t = 0; t < 4; t++) {
                C.due("ordered(0, 0x3030, " + s + ", " + t + ")", y.ordered(0, 0x3030, s, t), due[s][t]);
            }
        }
        y.road(0, 1, 49);
        C.due("0 to 1 is nearer", y.ordered(0, 0x3030, 0, 1), 3);
        C.due("0 to 3", y.ordered(0, 0x3030, 0, 3), 0);
        C.due("2 to 3", y.ordered(0, 0x3030, 2, 3), 3);
    }

    private static void orderedMovesNothing() {
        C.test("promise 31, an answer changes nothing");
        B.refused("ordered(0, 0x102, 2, 0)", Camp::some, 0, x -> x.ordered(0, 0x102, 2, 0));
        B.refused("ordered(0, 0x102, 1, 0)", Camp::some, 1, x -> x.ordered(0, 0x102, 1, 0));
    }

    // ---- promise 32

    private static void lot() {
        C.test("promise 32, 'a LOT (0 to 5)'");
        B.between("lot(l, 0)", Camp::some, 0, 5, (x, l) -> x.lot(l, 0));
        B.between("lot(l, 3)", Camp::some, 0, 5, (x, l) -> x.lot(l, 3));
        C.test("promise 32, '0 .. 1 .. 2 .. 3': no other");
        B.between("lot(0, what)", Camp::some, 0, 3, (x, what) -> x.lot(0, what));
        lotNothingYet();
        lotNoneFailed();
        lotAllFailed();
        lotOneFailed();
        lotOrMore();
        lotGone();
        lotLowestTerms();
        lotLargest();
        C.test("promise 32, an answer changes nothing");
        B.refused("lot(2, 2)", Camp::some, 1, x -> x.lot(2, 2));
        B.refused("lot(2, 3)", Camp::some, 4, x -> x.lot(2, 3));
    }

    private static void lotIs(ClothForce x, int l, long... due) {
        for (int what = 0; what < due.length; what++) {
            C.due("lot(" + l + ", " + what + ")", x.lot(l, what), due[what]);
        }
    }

    /** LOTS of so many PIECES, of each so many FAILED. */
    private static ClothForce lots(int[] many, int[] failed) {
        ClothForce x = line(1);
        for (int l = 0; l < many.length; l++) {
            for (int i = 0; i < many[l]; i++) {
                int p = x.piece(0, 0, l, 0);
                if (i < failed[l]) {
                    x.fail(p);
                }
            }
        }
        return x;
    }

    private static void lotNothingYet() {
        C.test("promise 32, '0 PIECES, 1 FAILED ones': no PIECE yet; a CHANCE of 1 to 1");
        for (int l = 0; l < 6; l++) {
            lotIs(new ClothForce(), l, 0, 0, 1, 1);
            lotIs(line(1, 1, 1), l, l == 0 ? 2 : 0, 0, 1, 1);
        }
    }

    private static void lotNoneFailed() {
        C.test("promise 32, 'as many FAILED ones in it as there are, or more': none in it, none at all");
        ClothForce x = lots(new int[] {3, 4}, new int[] {0, 2});
        lotIs(x, 0, 3, 0, 1, 1);
        lotIs(x, 2, 0, 0, 1, 1);
        ClothForce y = lots(new int[] {3, 4}, new int[] {0, 0});
        lotIs(y, 0, 3, 0, 1, 1);
        lotIs(y, 1, 4, 0, 1, 1);
    }

    private static void lotAllFailed() {
        C.test("promise 32, 'CHANCE': all PIECES FAILED, all of a LOT, the one PIECE that there is");
        lotIs(lots(new int[] {1}, new int[] {1}), 0, 1, 1, 1, 1);
        ClothForce x = lots(new int[] {2, 3}, new int[] {2, 3});
        lotIs(x, 0, 2, 2, 1, 1);
        lotIs(x, 1, 3, 3, 1, 1);
        ClothForce y = lots(new int[] {2, 3}, new int[] {2, 0});
        lotIs(y, 0, 2, 2, 1, 10);
        lotIs(y, 1, 3, 0, 1, 1);
    }

    private static void lotOneFailed() {
        C.test("promise 32, 'each set as likely': one FAILED of so many, in the least LOT and the last one");
        for (int others = 1; others < 6; others++) {
            lotIs(lots(new int[] {others, 0, 0, 0, 0, 1}, new int[] {0, 0, 0, 0, 0, 1}), 5, 1, 1, 1, 1 + others);
            lotIs(lots(new int[] {1, others}, new int[] {1, 0}), 0, 1, 1, 1, 1 + others);
        }
    }

    private static void lotOrMore() {
        C.test("promise 32, 'as many FAILED ones in it as there are, or more': 1, 2, 3 of 3 of 7 PIECES");
        // Of 35 sets of three, 4 have none of LOT 0, 18 one, 12 two, 1 all three.
        lotIs(lots(new int[] {3, 4}, new int[] {0, 3}), 0, 3, 0, 1, 1);
        lotIs(lots(new int[] {3, 4}, new int[] {1, 2}), 0, 3, 1, 31, 35);
        lotIs(lots(new int[] {3, 4}, new int[] {2, 1}), 0, 3, 2, 13, 35);
        lotIs(lots(new int[] {3, 4}, new int[] {3, 0}), 0, 3, 3, 1, 35);
        lotIs(lots(new int[] {3, 4}, new int[] {1, 2}), 1, 4, 2, 22, 35);
    }

    private static void lotGone() {
        C.test("promise 32, 'drawn from all PIECES': those with BODIES, lost ones and FAILED ones too");
        ClothForce x = lots(new int[] {2, 2}, new int[] {0, 0});
        x.issue(0, 0);
        x.issue(2, 0);
        x.lost(0);
        x.fail(3);
        lotIs(x, 0, 2, 0, 1, 1);
        lotIs(x, 1, 2, 1, 1, 2);
        x.fail(2);
        lotIs(x, 1, 2, 2, 1, 6);
    }

    private static void lotLowestTerms() {
        C.test("promise 32, 'in lowest terms (above 0)'");
        // 2 of 4: one or more of LOT 0 in 5 of 6 sets; 3 of 6, two or more of three in 10 of 20.
        lotIs(lots(new int[] {2, 2}, new int[] {1, 1}), 0, 2, 1, 5, 6);
        lotIs(lots(new int[] {3, 3}, new int[] {2, 1}), 0, 3, 2, 1, 2);
        lotIs(lots(new int[] {2, 4}, new int[] {1, 2}), 0, 2, 1, 4, 5);
        for (int l = 0; l < 6; l++) {
            ClothForce x = lots(new int[] {4, 3, 2, 5, 6, 1}, new int[] {1, 2, 0, 3, 1, 1});
            C.due("the numerator is above 0", x.lot(l, 2) > 0 ? 1 : 0, 1);
            C.due("the denominator is no less", x.lot(l, 3) >= x.lot(l, 2) ? 1 : 0, 1);
        }
    }

    private static void lotLargest() {
        C.test("promise 32, 'PIECES (36)': the greatest numbers, beyond those of an int");
        ClothForce x = lots(new int[] {18, 18}, new int[] {18, 0});
        lotIs(x, 0, 18, 18, 1, 9075135300L);
        lotIs(x, 1, 18, 0, 1, 1);
        ClothForce y = lots(new int[] {18, 18}, new int[] {1, 17});
        lotIs(y, 0, 18, 1, 9075135299L, 9075135300L);
        ClothForce z = lots(new int[] {36}, new int[] {36});
        lotIs(z, 0, 36, 36, 1, 1);
    }

    // ---- promise 33

    private static void worst() {
        worstNone();
        worstLeast();
        worstTies();
        worstEmptyLots();
        C.test("promise 33, an answer changes nothing");
        B.refused("worst()", Camp::some, 2, x -> x.worst());
    }

    private static void worstNone() {
        C.test("promise 33, 'NONE: no PIECE FAILED': no PIECE yet, none FAILED, one lost, one FAILED");
        C.due("no PIECE", new ClothForce().worst(), NONE);
        ClothForce x = lots(new int[] {0, 0, 2}, new int[] {0, 0, 0});
        C.due("none FAILED", x.worst(), NONE);
        x.issue(0, 0);
        x.lost(0);
        C.due("one lost", x.worst(), NONE);
        x.fail(1);
        C.due("one FAILED", x.worst() == NONE ? 1 : 0, 0);
        B.refused("worst() of none", () -> lots(new int[] {1}, new int[] {0}), NONE, y -> y.worst());
    }

    private static void worstLeast() {
        C.test("promise 33, 'The LOT with the least CHANCE': the first, the last; not the most FAILED ones");
        C.due("the first", lots(new int[] {2, 5, 5, 5, 5, 5}, new int[] {1, 0, 0, 0, 0, 0}).worst(), 0);
        C.due("the last", lots(new int[] {5, 5, 5, 5, 5, 2}, new int[] {0, 0, 0, 0, 0, 1}).worst(), 5);
        // 1 of 1 stands out more than 2 of 9.
        C.due("not the most", lots(new int[] {9, 0, 1}, new int[] {2, 0, 1}).worst(), 2);
    }

    private static void worstTies() {
        C.test("promise 33, '(of several the least number)': two alike, all alike");
        C.due("1 and 4", lots(new int[] {4, 2, 0, 0, 2}, new int[] {0, 1, 0, 0, 1}).worst(), 1);
        C.due("4 and 5", lots(new int[] {4, 2, 0, 0, 1, 1}, new int[] {0, 0, 0, 0, 1, 1}).worst(), 4);
        C.due("all", lots(new int[] {1, 1, 1, 1, 1, 1}, new int[] {1, 1, 1, 1, 1, 1}).worst(), 0);
        C.due("all with one FAILED", lots(new int[] {2, 2, 2, 2, 2, 2}, new int[] {1, 1, 1, 1, 1, 1}).worst(), 0);
    }

    private static void worstEmptyLots() {
        C.test("promise 33, 'of several the least number': a LOT without PIECES has a CHANCE of 1");
        C.due("all in LOT 3", lots(new int[] {0, 0, 0, 3}, new int[] {0, 0, 0, 2}).worst(), 0);
        C.due("all but one in LOT 3", lots(new int[] {0, 0, 0, 3, 1}, new int[] {0, 0, 0, 2, 0}).worst(), 3);
    }
}
