/** Promises 29 to 33: the parade, the order of the day, lots that fail. */
public final class SearchesTest {
    private static final int BAD = -1, NONE = -4;
    private static final Checks C = new Checks();

    public static void main(String[] args) {
        paradeOfNobody();
        paradeShades();
        paradeLastShade();
        paradePieces();
        paradeChanges();
        paradeLongChange();
        paradeStores();
        paradeFits();
        paradeWrong();
        order();
        orderRoads();
        orderNone();
        orderWrong();
        ordered();
        orderedTies();
        orderedOneStore();
        orderedWrong();
        lot();
        lotTerms();
        lotLargest();
        lotWrong();
        worst();
        worstTies();
        C.finish();
    }

    /** So many BODIES without MEASURES, one STORE, SIZE 0 of KIND 0 that FITS all. */
    private static ClothForce ready(int bodies) {
        ClothForce x = new ClothForce();
        for (int b = 0; b < bodies; b++) {
            x.body(0, 0, 0);
        }
        x.store();
        Checks.wideSize(x, 0);
        return x;
    }

    /** PIECES of SIZE 0 with these SHADES come to STORE 0. */
    private static void shades(ClothForce x, int... all) {
        for (int shade : all) {
            x.piece(0, 0, 0, shade);
        }
    }

    private static void paradeIs(ClothForce x, int e, int bodies, int a, int... pieces) {
        C.due("parade(0, " + e + ", 0)", x.parade(0, e, 0), bodies);
        C.due("parade(0, " + e + ", 1)", x.parade(0, e, 1), a);
        for (int b = 0; b < pieces.length; b++) {
            C.due("parade(0, " + e + ", 10 + " + b + ")", x.parade(0, e, 10 + b), pieces[b]);
        }
    }

    private static void paradeOfNobody() {
        C.test("promise 29: parade, nobody in it");
        ClothForce x = new ClothForce();
        paradeIs(x, 0, 0, NONE);
        C.due("parade(0, 0, 10)", x.parade(0, 0, 10), BAD);
        x.body(0, 0, 0);
        paradeIs(x, 99, 0, NONE, NONE);
        x.store();
        x.size(0, 1, 1, 0, 0, 0, 0);
        x.piece(0, 0, 0, 0);
        paradeIs(x, 99, 0, NONE, NONE);
    }

    private static void paradeShades() {
        C.test("promise 29: parade, shades from a to a and e");
        ClothForce x = ready(3);
        shades(x, 10, 14, 50, 53, 55);
        paradeIs(x, 0, 1, 10, 0, NONE, NONE);
        paradeIs(x, 1, 1, 9, 0, NONE, NONE);
        paradeIs(x, 2, 2, 53, 3, 4, NONE);
        paradeIs(x, 3, 2, 50, 2, 3, NONE);
        paradeIs(x, 4, 2, 10, 0, 1, NONE);
        paradeIs(x, 5, 3, 50, 2, 3, 4);
        paradeIs(x, 99, 3, 0, 0, 1, 2);
    }

    private static void paradeLastShade() {
        C.test("promise 29: parade, the first shade and the last");
        ClothForce x = ready(2);
        shades(x, 99);
        paradeIs(x, 0, 1, 99, 0, NONE);
        paradeIs(x, 99, 1, 0, 0, NONE);
        paradeIs(x, 9, 1, 90, 0, NONE);
        shades(x, 0);
        paradeIs(x, 0, 1, 0, 1, NONE);
        paradeIs(x, 98, 1, 0, 1, NONE);
        paradeIs(x, 99, 2, 0, 0, 1);
    }

    private static void paradePieces() {
        C.test("promise 29: parade, body 0 the least piece, none behind all");
        ClothForce x = ready(4);
        shades(x, 5, 5);
        paradeIs(x, 0, 2, 5, 0, 1, NONE, NONE);
        x.measure(0, 0, 60, 0);
        x.size(0, 60, 60, 0, 0, 0, 0);
        x.piece(0, 1, 0, 5);
        // PIECE 2 FITS BODY 0 alone: so that three are in it, it is the one that takes it.
        paradeIs(x, 0, 3, 5, 2, 0, 1, NONE, BAD);
    }

    /** BODY 0 with chest 10, 1 with 20: PIECES 0 for both, 1 for both, 2 for 0 alone. */
    private static void paradeChanges() {
        C.test("promise 29: parade, with as many bodies as can be");
        ClothForce x = new ClothForce();
        x.store();
        for (int b = 0; b < 3; b++) {
            x.body(0, 0, 0);
            x.measure(b, 0, 10 * (b + 1), 0);
        }
        x.size(0, 10, 20, 0, 0, 0, 0);
        x.size(0, 10, 10, 0, 0, 0, 0);
        x.size(0, 20, 30, 0, 0, 0, 0);
        x.piece(0, 0, 0, 0);
        x.piece(0, 1, 0, 0);
        x.piece(0, 2, 0, 0);
        // BODY 1 could have 0 or 2, but 2 is all that BODY 2 can have: BODY 0 must take 1.
        paradeIs(x, 0, 3, 0, 1, 0, 2);
        x.lost(0);
        x.fail(0);
        paradeIs(x, 0, 2, 0, 1, 2, NONE);
        x.fail(1);
        paradeIs(x, 0, 1, 0, NONE, 2, NONE);
    }

    /** BODY 11 can have PIECE 0 alone, BODY b PIECE b or b + 1: for it all others must take the next one. */
    private static void paradeLongChange() {
        C.test("promise 29: parade, all twelve bodies change");
        ClothForce x = new ClothForce();
        x.store();
        for (int b = 0; b < 12; b++) {
            x.body(0, 0, 0);
            x.measure(b, 0, b == 11 ? 10 : 20 + 10 * b, 0);
            x.size(0, 10 + 10 * b, b == 11 ? 120 : 20 + 10 * b, 0, 0, 0, 0);
        }
        for (int p = 0; p < 12; p++) {
            x.piece(0, p, 0, 30 + p);
        }
        paradeIs(x, 10, 11, 30, 0, 1, 2, 3, 4, 5, 6, 7, 8, 9, 10, NONE);
        paradeIs(x, 11, 12, 30, 1, 2, 3, 4, 5, 6, 7, 8, 9, 10, 11, 0);
        paradeIs(x, 12, 12, 29, 1, 2, 3, 4, 5, 6, 7, 8, 9, 10, 11, 0);
    }

    private static void paradeStores() {
        C.test("promise 29: parade, pieces in any store alone");
        ClothForce x = ready(3);
        x.store();
        Checks.read(x, "issue 0 9; life 0 3;");
        shades(x, 7, 7, 7);
        x.piece(1, 0, 0, 7);
        x.issue(0, 2);
        x.fail(1);
        paradeIs(x, 0, 2, 7, 2, 3, NONE);
        x.day(3);
        x.back(0, 1);
        paradeIs(x, 0, 3, 7, 0, 2, 3);
    }

    private static void paradeFits() {
        C.test("promise 29: parade, sizes that fit without leeway");
        ClothForce x = ready(1);
        x.size(0, 1, 9, 0, 0, 0, 0);
        x.size(1, 0, 9, 0, 0, 0, 0);
        x.piece(0, 1, 0, 3);
        x.piece(0, 2, 0, 3);
        paradeIs(x, 0, 0, NONE, NONE);
        C.due("parade(1, 0, 10)", x.parade(1, 0, 10), 1);
        x.day(1);
        x.measure(0, 0, 1, 1);
        paradeIs(x, 0, 1, 3, 0);
    }

    private static void paradeWrong() {
        C.test("promise 29: parade, wrong numbers");
        ClothForce x = ready(2);
        shades(x, 1);
        C.due("parade(-1, 0, 0)", x.parade(-1, 0, 0), BAD);
        C.due("parade(4, 0, 0)", x.parade(4, 0, 0), BAD);
        C.due("parade(0, -1, 0)", x.parade(0, -1, 0), BAD);
        C.due("parade(0, 100, 0)", x.parade(0, 100, 0), BAD);
        C.due("parade(0, 0, -1)", x.parade(0, 0, -1), BAD);
        C.due("parade(0, 0, 2)", x.parade(0, 0, 2), BAD);
        C.due("parade(0, 0, 9)", x.parade(0, 0, 9), BAD);
        C.due("parade(0, 0, 11)", x.parade(0, 0, 11), NONE);
        C.due("parade(0, 0, 12)", x.parade(0, 0, 12), BAD);
        C.due("parade(0, 0, max)", x.parade(0, 0, Integer.MAX_VALUE), BAD);
        C.due("parade(0, 0, min)", x.parade(0, 0, Integer.MIN_VALUE), BAD);
    }

    /** STORES with so many PIECES of KIND 0 each. */
    private static ClothForce stocked(int... held) {
        ClothForce x = new ClothForce();
        Checks.wideSize(x, 0);
        Checks.wideSize(x, 1);
        for (int s = 0; s < held.length; s++) {
            x.store();
            for (int i = 0; i < held[s]; i++) {
                x.piece(s, 0, 0, 0);
            }
        }
        return x;
    }

    private static void order() {
        C.test("promise 30: order");
        C.due("order(0, 0), no store", new ClothForce().order(0, 0), 0);
        ClothForce x = stocked(3, 1);
        C.due("order(0, 0x13), as it is", x.order(0, 0x13), 0);
        C.due("order(0, 0), more may stay", x.order(0, 0), 0);
        C.due("order(0, 0x22)", x.order(0, 0x22), 50);
        C.due("order(0, 0x40)", x.order(0, 0x40), 150);
        C.due("order(0, 0x04)", x.order(0, 0x04), 50);
        C.due("order(0, 0x30)", x.order(0, 0x30), 100);
        C.due("stock(0, 0): nothing is moved", x.stock(0, 0), 3);
        x.road(0, 1, 0);
        C.due("order(0, 0x30)", x.order(0, 0x30), 0);
    }

    private static void orderRoads() {
        C.test("promise 30: order, straight and at the least cost");
        ClothForce x = stocked(4, 0, 3, 0);
        x.road(0, 1, 10);
        x.road(0, 3, 30);
        x.road(2, 1, 20);
        x.road(2, 3, 99);
        C.due("order(0, 0x2020): 0 to 1, 0 to 3", x.order(0, 0x2020), 2 * 10 + 2 * 30);
        C.due("order(0, 0x2002): 0 and 2 to 3", x.order(0, 0x2002), 60);
        C.due("order(0, 0x4030): 2 can bring one", x.order(0, 0x4030), 3 * 20 + 4 * 30);
        C.due("order(0, 0x4300): 0 to 2 is not needed", x.order(0, 0x4300), 120);
        C.due("order(0, 0x0004)", x.order(0, 4), 0);
        C.due("order(0, 0x7)", x.order(0, 7), 150);
        x.road(0, 2, 0);
        C.due("order(0, 0x3004), no way over a third", x.order(0, 0x3004), 3 * 99);
    }

    private static void orderNone() {
        C.test("promise 30: order, too few in all");
        ClothForce x = stocked(3, 1, 0, 0);
        C.due("order(0, 0x1111)", x.order(0, 0x1111), 100);
        C.due("order(0, 0x1112)", x.order(0, 0x1112), NONE);
        C.due("order(0, 0xf)", x.order(0, 0xf), NONE);
        C.due("order(1, 0)", x.order(1, 0), 0);
        C.due("order(1, 1)", x.order(1, 1), NONE);
        x.fail(0);
        C.due("order(0, 0x1111)", x.order(0, 0x1111), NONE);
        C.due("order(0, 0x0111)", x.order(0, 0x0111), 50);
    }

    private static void orderWrong() {
        C.test("promise 30: order, wrong numbers");
        C.due("order(0, 1), no store", new ClothForce().order(0, 1), BAD);
        ClothForce x = stocked(1, 0);
        C.due("order(0, 0x100)", x.order(0, 0x100), BAD);
        C.due("order(0, 0xff)", x.order(0, 0xff), NONE);
        C.due("order(0, -1)", x.order(0, -1), BAD);
        C.due("order(-1, 0)", x.order(-1, 0), BAD);
        C.due("order(4, 0)", x.order(4, 0), BAD);
        C.due("order(0, min)", x.order(0, Integer.MIN_VALUE), BAD);
        x.store();
        x.store();
        C.due("order(0, 0xffff)", x.order(0, 0xffff), NONE);
        C.due("order(0, 0x10000)", x.order(0, 0x10000), BAD);
        C.due("order(0, max)", x.order(0, Integer.MAX_VALUE), BAD);
    }

    private static void ordered() {
        C.test("promise 31: ordered");
        ClothForce x = stocked(4, 0, 3, 0);
        x.road(0, 1, 10);
        x.road(0, 3, 30);
        x.road(2, 1, 20);
        x.road(2, 3, 99);
        int[][] due = {{0, 0, 0, 4}, {0, 0, 0, 0}, {0, 3, 0, 0}, {0, 0, 0, 0}};
        for (int from = 0; from < 4; from++) {
            for (int to = 0; to < 4; to++) {
                C.due("ordered(0, 0x4030, " + from + ", " + to + ")", x.ordered(0, 0x4030, from, to), due[from][to]);
            }
        }
        C.due("stock(3, 0): nothing is moved", x.stock(3, 0), 0);
    }

    private static void orderedTies() {
        C.test("promise 31: ordered, of equal ways the least number from 0 to 1, ..");
        ClothForce x = stocked(3, 0, 3, 0);
        // All ROADS are alike: the least from 0 to 1 leaves STORE 2 to bring what it can.
        C.due("0 to 1 of 0x0040", x.ordered(0, 0x0040, 0, 1), 1);
        C.due("2 to 1 of 0x0040", x.ordered(0, 0x0040, 2, 1), 3);
        C.due("0 to 1 of 0x2020", x.ordered(0, 0x2020, 0, 1), 0);
        C.due("0 to 3 of 0x2020", x.ordered(0, 0x2020, 0, 3), 1);
        C.due("2 to 1 of 0x2020", x.ordered(0, 0x2020, 2, 1), 2);
        C.due("2 to 3 of 0x2020", x.ordered(0, 0x2020, 2, 3), 1);
        x.road(0, 1, 49);
        C.due("0 to 1 of 0x2020", x.ordered(0, 0x2020, 0, 1), 2);
        x.road(2, 3, 51);
        x.road(0, 3, 50);
        C.due("0 to 1 of 0x2020, alike once more", x.ordered(0, 0x2020, 0, 1), 1);
        C.due("0 to 3 of 0x2020, alike once more", x.ordered(0, 0x2020, 0, 3), 2);
    }

    private static void orderedOneStore() {
        C.test("promise 31: ordered, from a store to itself");
        ClothForce x = stocked(1, 0);
        for (int s = 0; s < 2; s++) {
            C.due("ordered(0, 0, s, s): more may stay", x.ordered(0, 0, s, s), 0);
            C.due("ordered(0, 0x10, s, s): one is moved, to another", x.ordered(0, 0x10, s, s), 0);
            C.due("ordered(0, 0x01, s, s): as it is", x.ordered(0, 0x01, s, s), 0);
            C.due("ordered(0, 0x11, s, s): too few in all", x.ordered(0, 0x11, s, s), NONE);
            C.due("ordered(0, 0x100, s, s): more digits", x.ordered(0, 0x100, s, s), BAD);
            C.due("ordered(0, -1, s, s)", x.ordered(0, -1, s, s), BAD);
            C.due("ordered(4, 0, s, s)", x.ordered(4, 0, s, s), BAD);
        }
        C.due("ordered(0, 0, 2, 2): no such store", x.ordered(0, 0, 2, 2), BAD);
        C.due("ordered(0, 0, -1, -1): no such store", x.ordered(0, 0, -1, -1), BAD);
        C.due("ordered(0, 0, 0, 0), no store", new ClothForce().ordered(0, 0, 0, 0), BAD);
    }

    private static void orderedWrong() {
        C.test("promise 31: ordered, wrong numbers");
        ClothForce x = stocked(1, 0);
        C.due("ordered(0, 0x10, 0, 1)", x.ordered(0, 0x10, 0, 1), 1);
        C.due("ordered(0, 0x10, 1, 0)", x.ordered(0, 0x10, 1, 0), 0);
        C.due("ordered(0, 0x10, 0, 2)", x.ordered(0, 0x10, 0, 2), BAD);
        C.due("ordered(0, 0x10, -1, 1)", x.ordered(0, 0x10, -1, 1), BAD);
        C.due("ordered(0, 0x10, 2, 1)", x.ordered(0, 0x10, 2, 1), BAD);
        C.due("ordered(0, 0x10, 0, -1)", x.ordered(0, 0x10, 0, -1), BAD);
        C.due("ordered(4, 0x10, 0, 1)", x.ordered(4, 0x10, 0, 1), BAD);
        C.due("ordered(-1, 0x10, 0, 1)", x.ordered(-1, 0x10, 0, 1), BAD);
        C.due("ordered(0, 0x110, 0, 1)", x.ordered(0, 0x110, 0, 1), BAD);
        C.due("ordered(0, -1, 0, 1)", x.ordered(0, -1, 0, 1), BAD);
        C.due("ordered(0, 0x11, 0, 1)", x.ordered(0, 0x11, 0, 1), NONE);
        C.due("ordered(0, 0x11, 0, 2)", x.ordered(0, 0x11, 0, 2), BAD);
    }

    private static void lotIs(ClothForce x, int l, long... due) {
        for (int what = 0; what < due.length; what++) {
            C.due("lot(" + l + ", " + what + ")", x.lot(l, what), due[what]);
        }
    }

    /** So many PIECES of LOT l, the first of which FAILED. */
    private static void lots(ClothForce x, int l, int many, int failed) {
        for (int i = 0; i < many; i++) {
            int p = x.piece(0, 0, l, 0);
            if (i < failed) {
                x.fail(p);
            }
        }
    }

    private static void lot() {
        C.test("promise 32: lot");
        lotIs(new ClothForce(), 5, 0, 0, 1, 1);
        ClothForce x = ready(1);
        lots(x, 0, 4, 2);
        lots(x, 1, 6, 1);
        // Three FAILED of ten, two or more of them in LOT 0: (6 * 6 + 4) / 120.
        lotIs(x, 0, 4, 2, 1, 3);
        // One or more in LOT 1: all but the four ways without.
        lotIs(x, 1, 6, 1, 29, 30);
        lotIs(x, 2, 0, 0, 1, 1);
    }

    private static void lotTerms() {
        C.test("promise 32: lot, pieces that are gone count, failed or lost");
        ClothForce x = ready(1);
        Checks.read(x, "issue 0 9;");
        lots(x, 3, 3, 0);
        lots(x, 4, 1, 1);
        x.issue(0, 0);
        x.lost(0);
        x.issue(1, 0);
        lotIs(x, 3, 3, 0, 1, 1);
        lotIs(x, 4, 1, 1, 1, 4);
        x.fail(1);
        // Two of four: the one of LOT 4 among them in 3 of 6 ways.
        lotIs(x, 3, 3, 1, 1, 1);
        lotIs(x, 4, 1, 1, 1, 2);
        x.fail(2);
        lotIs(x, 3, 3, 2, 1, 1);
        lotIs(x, 4, 1, 1, 3, 4);
    }

    private static void lotLargest() {
        C.test("promise 32: lot, all 36 pieces");
        ClothForce x = ready(1);
        lots(x, 0, 18, 18);
        lots(x, 1, 18, 0);
        lotIs(x, 0, 18, 18, 1, 9075135300L);
        lotIs(x, 1, 18, 0, 1, 1);
        for (int p = 18; p < 36; p++) {
            x.fail(p);
        }
        lotIs(x, 0, 18, 18, 1, 1);
    }

    private static void lotWrong() {
        C.test("promise 32: lot, wrong numbers");
        ClothForce x = ready(1);
        C.due("lot(6, 0)", x.lot(6, 0), BAD);
        C.due("lot(-1, 0)", x.lot(-1, 0), BAD);
        C.due("lot(0, 4)", x.lot(0, 4), BAD);
        C.due("lot(0, -1)", x.lot(0, -1), BAD);
    }

    private static void worst() {
        C.test("promise 33: worst");
        ClothForce x = ready(1);
        C.due("worst()", x.worst(), NONE);
        lots(x, 1, 9, 0);
        C.due("worst()", x.worst(), NONE);
        lots(x, 1, 4, 3);
        lots(x, 3, 2, 2);
        // More FAILED in LOT 1, but they stand out less there.
        C.due("worst()", x.worst(), 3);
        lots(x, 5, 1, 0);
        C.due("worst()", x.worst(), 3);
    }

    private static void worstTies() {
        C.test("promise 33: worst, of several the least number");
        ClothForce x = ready(1);
        lots(x, 4, 3, 1);
        lots(x, 2, 3, 1);
        C.due("worst()", x.worst(), 2);
        ClothForce y = ready(1);
        lots(y, 3, 2, 2);
        C.due("worst(): all CHANCES are 1", y.worst(), 0);
    }
}
