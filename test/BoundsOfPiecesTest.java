/**
 * Promises 19 to 28: each sentence that names a bound, on both of its sides. A test's name tells the promise and, in
 * quotes, the sentence; what is refused leaves all as it was.
 */
public final class BoundsOfPiecesTest {
    private static final int BAD = -1, STATE = -2, FULL = -3, NONE = -4;
    private static final int LAST_STORE = Camp.STORES - 1, LAST_PIECE = Camp.PIECES - 1, LAST_BODY = Camp.BODIES - 1;
    // What the PIECES of Camp are, as told there.
    private static final int WITH_BODY = 0, BACK = 1, FAILED = 3, LOST = 4, STORED = 6;
    private static final Checks C = new Checks();
    private static final Bounds B = new Bounds(C);

    public static void main(String[] args) {
        store();
        road();
        piece();
        pieceOf();
        issue();
        back();
        lost();
        move();
        fail();
        stock();
        C.finish();
    }

    /** Two STORES, two BODIES, SIZE 0 of KIND 0 that FITS all, six PIECES of it in STORE 0, and a text. */
    private static ClothForce ready(String signs) {
        ClothForce x = new ClothForce();
        x.store();
        x.store();
        x.body(0, 0, 0);
        x.body(0, 0, 0);
        Checks.wideSize(x, 0);
        for (int p = 0; p < 6; p++) {
            x.piece(0, 0, 0, 0);
        }
        Checks.read(x, signs);
        return x;
    }

    // ---- promise 19

    private static void store() {
        C.test("promise 19, 'STORES (4)', 'FULL': the 4th and the 5th");
        ClothForce x = new ClothForce();
        C.due("count(2), none yet", x.count(2), 0);
        for (int s = 0; s < 4; s++) {
            C.due("store()", x.store(), s);
            C.due("count(2)", x.count(2), s + 1);
        }
        C.due("the 5th", x.store(), FULL);
        C.due("stock(3, 0)", x.stock(3, 0), 0);
        C.due("stock(4, 0)", x.stock(4, 0), BAD);
        B.refused("the 5th store", Camp::fullOfStores, FULL, y -> y.store());
    }

    // ---- promise 20

    private static void road() {
        C.test("promise 20, 'no such STORE': from which");
        B.between("road(s, 2, 1)", Camp::some, 0, LAST_STORE - 1, (x, s) -> x.road(s, LAST_STORE, 1));
        B.between("road(s, 0, 1) of 4", Camp::fullOfStores, 1, 3, (x, s) -> x.road(s, 0, 1));
        C.test("promise 20, 'no such STORE': to which");
        B.between("road(0, t, 1)", Camp::some, 1, LAST_STORE, (x, t) -> x.road(0, t, 1));
        B.between("road(0, t, 1) of 4", Camp::fullOfStores, 1, 3, (x, t) -> x.road(0, t, 1));
        C.test("promise 20, 'the ROAD (0 to 99)'");
        B.between("road(0, 1, v)", Camp::some, 0, 99, (x, v) -> x.road(0, 1, v));
        roadOneStore();
        roadNothingYet();
        roadWas();
        roadBothWays();
    }

    private static void roadOneStore() {
        C.test("promise 20, 'BAD: also one and the same'");
        for (int s = 0; s < Camp.STORES; s++) {
            int of = s;
            B.refused("road(s, s, 0)", Camp::some, BAD, x -> x.road(of, of, 0));
            B.refused("road(s, s, 50)", Camp::some, BAD, x -> x.road(of, of, 50));
        }
    }

    private static void roadNothingYet() {
        C.test("promise 20, 'ROAD between two STORES': no STORE yet, one, two");
        ClothForce x = new ClothForce();
        C.due("road(0, 1, 1), none", x.road(0, 1, 1), BAD);
        x.store();
        C.due("road(0, 1, 1), one", x.road(0, 1, 1), BAD);
        C.due("road(1, 0, 1), one", x.road(1, 0, 1), BAD);
        x.store();
        C.due("road(0, 1, 1), two", x.road(0, 1, 1), 50);
    }

    private static void roadWas() {
        C.test("promise 20, 'what it was': 50 at first, the least, the greatest, behind refused ones");
        ClothForce x = Camp.fullOfStores();
        for (int s = 0; s < 3; s++) {
            int was = s == 2 ? 50 : s == 0 ? 10 : 30;
            C.due("road(s, s + 1, 0)", x.road(s, s + 1, 0), was);
            C.due("road(s, s + 1, 99)", x.road(s, s + 1, 99), 0);
            C.due("road(s, s + 1, 100)", x.road(s, s + 1, 100), BAD);
            C.due("road(s, s + 1, -1)", x.road(s, s + 1, -1), BAD);
            C.due("road(s, s + 1, 1)", x.road(s, s + 1, 1), 99);
        }
        C.due("road(0, 3, 1)", x.road(0, 3, 1), 50);
        C.due("road(0, 2, 1)", x.road(0, 2, 1), 50);
    }

    private static void roadBothWays() {
        C.test("promise 20, 'both ways alike': each of the six, and no other");
        for (int s = 0; s < 4; s++) {
            for (int t = 0; t < 4; t++) {
                if (s != t) {
                    ClothForce x = new ClothForce();
                    for (int i = 0; i < 4; i++) {
                        x.store();
                    }
                    x.road(s, t, 7);
                    roadsBut(x, s, t);
                }
            }
        }
    }

    /** All ROADS are 50, but that from s to t and from t to s. */
    private static void roadsBut(ClothForce x, int s, int t) {
        for (int i = 0; i < 4; i++) {
            for (int j = 0; j < 4; j++) {
                boolean that = i == s && j == t || i == t && j == s;
                if (i != j) {
                    int was = that ? 7 : 50;
                    C.due("road(" + i + ", " + j + ", ..)", x.road(i, j, was), was);
                }
            }
        }
    }

    // ---- promise 21

    private static void piece() {
        C.test("promise 21, 'no such STORE'");
        B.between("piece(store, 0, 0, 0)", Camp::some, 0, LAST_STORE, (x, s) -> x.piece(s, 0, 0, 0));
        B.between("piece(store, 0, 0, 0) of 4", Camp::fullOfStores, 0, 3, (x, s) -> x.piece(s, 0, 0, 0));
        C.test("promise 21, 'no such SIZE'");
        B.between("piece(0, size, 0, 0)", Camp::some, 0, Camp.SIZES - 1, (x, s) -> x.piece(0, s, 0, 0));
        B.between("piece(0, size, 0, 0) of 12", Camp::fullOfSizes, 0, 11, (x, s) -> x.piece(0, s, 0, 0));
        C.test("promise 21, 'a LOT (0 to 5)'");
        B.between("piece(0, 0, lot, 0)", Camp::some, 0, 5, (x, l) -> x.piece(0, 0, l, 0));
        C.test("promise 21, 'a SHADE (0 to 99)'");
        B.between("piece(0, 0, 0, shade)", Camp::some, 0, 99, (x, v) -> x.piece(0, 0, 0, v));
        pieceNumbers();
        pieceKept();
        pieceFull();
        pieceBadAheadOfFull();
    }

    private static void pieceNumbers() {
        C.test("promise 21, 'A PIECE in a STORE: its number': from 0 on, a refused one takes none, a GONE one keeps its own");
        ClothForce x = new ClothForce();
        C.due("no STORE, no SIZE yet", x.piece(0, 0, 0, 0), BAD);
        x.store();
        C.due("no SIZE yet", x.piece(0, 0, 0, 0), BAD);
        Checks.wideSize(x, 0);
        C.due("the first", x.piece(0, 0, 0, 0), 0);
        C.due("SHADE 100", x.piece(0, 0, 0, 100), BAD);
        x.fail(0);
        C.due("the second", x.piece(0, 0, 0, 0), 1);
        C.due("count(3)", x.count(3), 2);
    }

    private static void pieceKept() {
        C.test("promise 21, 'a SIZE, a LOT (0 to 5), a SHADE (0 to 99); each is in a STORE': the least and the greatest");
        ClothForce x = Camp.fullOfStores();
        Checks.wideSize(x, 3);
        int[][] all = {{0, 0, 0, 0}, {3, 4, 5, 99}};
        for (int[] of : all) {
            int p = x.piece(of[0], of[1], of[2], of[3]);
            C.due("its SIZE", x.pieceOf(p, 0), of[1]);
            C.due("its LOT", x.pieceOf(p, 1), of[2]);
            C.due("its SHADE", x.pieceOf(p, 2), of[3]);
            C.due("its STORE", x.pieceOf(p, 3), of[0]);
        }
    }

    private static void pieceFull() {
        C.test("promise 21, 'PIECES (36)', 'FULL': the 36th and the 37th, GONE ones counted");
        ClothForce x = ready("");
        for (int p = 6; p < 36; p++) {
            C.due("piece", x.piece(0, 0, 5, p), p);
        }
        C.due("the 37th", x.piece(0, 0, 0, 0), FULL);
        C.due("pieceOf(35, 2)", x.pieceOf(35, 2), 35);
        C.due("pieceOf(36, 2)", x.pieceOf(36, 2), BAD);
        C.due("stock(0, 0)", x.stock(0, 0), 36);
        x.fail(0);
        C.due("the 37th, one GONE", x.piece(0, 0, 0, 0), FULL);
        B.refused("the 37th piece", Camp::fullOfPieces, FULL, y -> y.piece(2, 3, 5, 99));
    }

    private static void pieceBadAheadOfFull() {
        C.test("promise 21, 'the first that fits': BAD ahead of FULL");
        B.outside("piece(store, 0, 0, 0)", Camp::fullOfPieces, 0, LAST_STORE, (x, s) -> x.piece(s, 0, 0, 0));
        B.outside("piece(0, size, 0, 0)", Camp::fullOfPieces, 0, Camp.SIZES - 1, (x, s) -> x.piece(0, s, 0, 0));
        B.outside("piece(0, 0, lot, 0)", Camp::fullOfPieces, 0, 5, (x, l) -> x.piece(0, 0, l, 0));
        B.outside("piece(0, 0, 0, shade)", Camp::fullOfPieces, 0, 99, (x, v) -> x.piece(0, 0, 0, v));
    }

    // ---- promise 22

    private static void pieceOf() {
        C.test("promise 22, 'no such PIECE'");
        B.between("pieceOf(p, 0)", Camp::some, 0, LAST_PIECE, (x, p) -> x.pieceOf(p, 0));
        B.between("pieceOf(p, 0) of 36", Camp::fullOfPieces, 0, 35, (x, p) -> x.pieceOf(p, 0));
        B.outside("pieceOf(p, 0) of none", ClothForce::new, 0, -1, (x, p) -> x.pieceOf(p, 0));
        C.test("promise 22, '0 SIZE .. 8 the BODY with which it was last': no other");
        B.outside("pieceOf(1, what)", Camp::some, 0, 8, (x, what) -> x.pieceOf(BACK, what));
        int[] due = {1, 1, 12, 1, NONE, 2, 1, 0, 0};
        for (int what = 0; what <= 8; what++) {
            int which = what;
            B.refused("pieceOf(1, " + what + ")", Camp::some, due[what], x -> x.pieceOf(BACK, which));
        }
        pieceOfStore();
        pieceOfBody();
        pieceOfWorn();
        pieceOfWornTwice();
        pieceOfIssued();
        pieceOfFailed();
        pieceOfLastBody();
    }

    private static void pieceOfStore() {
        C.test("promise 22, '3 the STORE in which it is (NONE)': none with a BODY, none GONE");
        ClothForce x = ready("issue 0 9;");
        C.due("at first", x.pieceOf(0, 3), 0);
        x.move(0, 1);
        C.due("moved", x.pieceOf(0, 3), 1);
        x.issue(0, 0);
        C.due("with a BODY", x.pieceOf(0, 3), NONE);
        x.back(0, 0);
        C.due("come back", x.pieceOf(0, 3), 0);
        x.fail(0);
        C.due("FAILED", x.pieceOf(0, 3), NONE);
        x.issue(1, 0);
        x.lost(1);
        C.due("lost", x.pieceOf(1, 3), NONE);
        C.due("never moved", x.pieceOf(5, 3), 0);
    }

    private static void pieceOfBody() {
        C.test("promise 22, '4 the BODY with which it is (NONE)': none in a STORE, none GONE");
        ClothForce x = ready("issue 0 9;");
        C.due("at first", x.pieceOf(0, 4), NONE);
        x.issue(0, 0);
        C.due("with BODY 0", x.pieceOf(0, 4), 0);
        x.back(0, 0);
        C.due("come back", x.pieceOf(0, 4), NONE);
        x.issue(0, 1);
        C.due("with BODY 1", x.pieceOf(0, 4), 1);
        x.fail(0);
        C.due("FAILED", x.pieceOf(0, 4), NONE);
        x.issue(1, 1);
        x.lost(1);
        C.due("lost", x.pieceOf(1, 4), NONE);
    }

    private static void pieceOfWorn() {
        C.test("promise 22, '5 WORN: from the day it was issued to .. THE DAY (that one not counted)'");
        ClothForce x = ready("issue 0 9;");
        x.day(4);
        C.due("never issued", x.pieceOf(0, 5), 0);
        x.issue(0, 0);
        C.due("on the day of issue", x.pieceOf(0, 5), 0);
        x.day(5);
        C.due("on the next day", x.pieceOf(0, 5), 1);
        x.day(9999);
        C.due("on the last day", x.pieceOf(0, 5), 9995);
        ClothForce y = ready("issue 0 9;");
        y.issue(0, 0);
        y.day(9999);
        C.due("all days", y.pieceOf(0, 5), 9999);
    }

    private static void pieceOfWornTwice() {
        C.test("promise 22, '5 WORN: to that when it came back, was lost, FAILED': no day behind it is counted");
        ClothForce x = ready("issue 0 9;life 0 9999;");
        for (int p = 0; p < 4; p++) {
            x.issue(p, 0);
        }
        x.day(2);
        x.back(0, 0);
        x.back(3, 0);
        x.lost(1);
        x.fail(2);
        x.day(6);
        for (int p = 0; p < 4; p++) {
            C.due("WORN of " + p, x.pieceOf(p, 5), 2);
        }
        x.issue(0, 1);
        C.due("issued again", x.pieceOf(0, 5), 2);
        x.back(0, 0);
        x.issue(0, 1);
        C.due("twice on a day", x.pieceOf(0, 5), 2);
        x.day(7);
        C.due("a day later", x.pieceOf(0, 5), 3);
        x.fail(0);
        x.fail(3);
        x.day(9999);
        C.due("FAILED behind its second time", x.pieceOf(0, 5), 3);
        C.due("FAILED in a STORE", x.pieceOf(3, 5), 2);
    }

    private static void pieceOfIssued() {
        C.test("promise 22, '6 how often it was issued': never, once, twice, a refused one not counted");
        ClothForce x = ready("issue 0 1;");
        C.due("never", x.pieceOf(0, 6), 0);
        x.issue(0, 0);
        C.due("once", x.pieceOf(0, 6), 1);
        x.issue(0, 1);
        x.issue(1, 0);
        C.due("refused, as it is in no STORE", x.pieceOf(0, 6), 1);
        C.due("refused, as none is DUE any more", x.pieceOf(1, 6), 0);
        x.back(0, 1);
        C.due("come back", x.pieceOf(0, 6), 1);
        x.issue(0, 0);
        C.due("twice, to the same", x.pieceOf(0, 6), 2);
        x.fail(0);
        C.due("FAILED", x.pieceOf(0, 6), 2);
    }

    private static void pieceOfFailed() {
        C.test("promise 22, '7 whether it FAILED': not at first, not lost, only if it was told");
        ClothForce x = ready("issue 0 9;");
        x.issue(0, 0);
        x.issue(1, 0);
        x.lost(0);
        x.fail(0);
        x.fail(1);
        x.fail(2);
        int[] due = {0, 1, 1, 0};
        for (int p = 0; p < 4; p++) {
            C.due("pieceOf(" + p + ", 7)", x.pieceOf(p, 7), due[p]);
        }
    }

    private static void pieceOfLastBody() {
        C.test("promise 22, '8 the BODY with which it was last (NONE)': none yet, the one with which it is, the latest");
        ClothForce x = ready("issue 0 9;");
        C.due("none yet", x.pieceOf(0, 8), NONE);
        x.issue(0, 0);
        C.due("with BODY 0", x.pieceOf(0, 8), 0);
        x.back(0, 0);
        C.due("come back", x.pieceOf(0, 8), 0);
        x.issue(0, 1);
        x.fail(0);
        C.due("FAILED", x.pieceOf(0, 8), 1);
        x.issue(1, 1);
        x.lost(1);
        C.due("lost", x.pieceOf(1, 8), 1);
        x.fail(2);
        C.due("FAILED in a STORE", x.pieceOf(2, 8), NONE);
    }

    // ---- promise 23

    private static void issue() {
        C.test("promise 23, 'no such PIECE'");
        B.outside("issue(p, 0)", Camp::some, 0, LAST_PIECE, (x, p) -> x.issue(p, 0));
        B.outside("issue(p, 0) of 36", Camp::fullOfPieces, 0, 35, (x, p) -> x.issue(p, 0));
        C.due("issue of the first", ready("issue 0 9;").issue(0, 0), 1);
        C.due("issue of the last", ready("issue 0 9;").issue(5, 0), 1);
        C.test("promise 23, 'no such BODY'");
        B.between("issue(6, b)", Camp::some, 0, LAST_BODY, (x, b) -> x.issue(STORED, b));
        B.between("issue(6, b) of 12", Camp::fullOfBodies, 0, 11, (x, b) -> x.issue(STORED, b));
        issueInNoStore();
        issueBadAheadOfState();
        issueFits();
        issueLeeway();
        issueLeewayOfAll();
        issueWornOut();
        issueNoneDue();
        issueAsManyAsDue();
        issueMoreThanDue();
        issueOfItsKind();
        issueOnTheDay();
    }

    private static void issueInNoStore() {
        C.test("promise 23, 'STATE: it is in no STORE': with a BODY, FAILED, lost");
        for (int p : new int[] {WITH_BODY, FAILED, LOST}) {
            for (int b = 0; b < Camp.BODIES; b++) {
                int to = b;
                B.refused("issue(" + p + ", " + b + ")", Camp::some, STATE, x -> x.issue(p, to));
            }
        }
        C.due("issue of one come back", Camp.some().issue(BACK, 0), 1);
    }

    private static void issueBadAheadOfState() {
        C.test("promise 23, 'the first that fits': BAD ahead of STATE");
        for (int p : new int[] {WITH_BODY, FAILED, LOST}) {
            B.outside("issue(" + p + ", b)", Camp::some, 0, LAST_BODY, (x, b) -> x.issue(p, b));
        }
    }

    /** A BODY of which one MEASURE is v; PIECE 0 of a SIZE that wants it from 60 to 70. */
    private static ClothForce onEdge(int what, int v) {
        ClothForce x = new ClothForce();
        x.body(0, 0, 0);
        x.measure(0, what, v, 0);
        int[] least = new int[3];
        int[] greatest = new int[3];
        least[what] = 60;
        greatest[what] = 70;
        x.size(0, least[0], greatest[0], least[1], greatest[1], least[2], greatest[2]);
        x.store();
        x.piece(0, 0, 0, 0);
        Checks.read(x, "issue 0 1;");
        return x;
    }

    private static void issueFits() {
        C.test("promise 23, '1, if its SIZE FITS it, else 0': the least, the greatest, just outside");
        for (int what = 0; what < 3; what++) {
            C.due("the least less 1", onEdge(what, 59).issue(0, 0), 0);
            C.due("the least", onEdge(what, 60).issue(0, 0), 1);
            C.due("the greatest", onEdge(what, 70).issue(0, 0), 1);
            C.due("the greatest and 1", onEdge(what, 71).issue(0, 0), 0);
        }
    }

    private static void issueLeeway() {
        C.test("promise 23, 'it does not FIT with LEEWAY 5': 5 outside, and 6, below and above");
        for (int what = 0; what < 3; what++) {
            int which = what;
            C.due("5 below", onEdge(what, 55).issue(0, 0), 0);
            C.due("5 above", onEdge(what, 75).issue(0, 0), 0);
            B.refused("6 below", () -> onEdge(which, 54), STATE, x -> x.issue(0, 0));
            B.refused("6 above", () -> onEdge(which, 76), STATE, x -> x.issue(0, 0));
            ClothForce x = onEdge(what, 54);
            x.issue(0, 0);
            C.due("it stays in its STORE", x.pieceOf(0, 3), 0);
        }
    }

    private static void issueLeewayOfAll() {
        C.test("promise 23, 'FITS with LEEWAY 5': all three 5 outside, one of them 6");
        for (int off = 0; off < 4; off++) {
            ClothForce x = new ClothForce();
            x.body(0, 0, 0);
            Checks.measured(x, 0, off == 1 ? 4 : 5, off == 2 ? 26 : 25, off == 3 ? 4 : 5);
            x.size(0, 10, 20, 10, 20, 10, 20);
            x.store();
            x.piece(0, 0, 0, 0);
            Checks.read(x, "issue 0 1;");
            C.due("issue with " + off + " too far", x.issue(0, 0), off == 0 ? 0 : STATE);
            C.due("it is with BODY 0", x.told(0, 6), off == 0 ? 1 : 0);
        }
    }

    /** PIECE 0 was with BODY 0 for so many days of a LIFE of 5, and came back. */
    private static ClothForce worn(int days) {
        ClothForce x = ready("issue 0 9;life 0 5;");
        x.issue(0, 0);
        x.day(days);
        x.back(0, 0);
        return x;
    }

    private static void issueWornOut() {
        C.test("promise 23, 'it is worn out': WORN one below LIFE, LIFE, one above");
        C.due("never worn", worn(0).issue(0, 1), 1);
        C.due("WORN 4 of 5", worn(4).issue(0, 1), 1);
        B.refused("WORN 5 of 5", () -> worn(5), STATE, x -> x.issue(0, 1));
        B.refused("WORN 6 of 5", () -> worn(6), STATE, x -> x.issue(0, 1));
        ClothForce x = ready("issue 0 9;life 0 1;");
        C.due("WORN 0 of 1", x.issue(0, 0), 1);
        ClothForce y = worn(5);
        Checks.read(y, "issue 0 9;life 0 5;from 6 life 0 6;");
        C.due("WORN 5 of 5 today", y.issue(0, 1), STATE);
        y.day(6);
        C.due("WORN 5 of 6 from this day on", y.issue(0, 1), 1);
    }

    private static void issueNoneDue() {
        C.test("promise 23, 'as many of its KIND as are DUE': none DUE, none told");
        B.refused("none told", () -> ready(""), STATE, x -> x.issue(0, 0));
        B.refused("0 told", () -> ready("issue 0 0;"), STATE, x -> x.issue(0, 0));
        B.refused("of another KIND", () -> ready("issue 1 9;"), STATE, x -> x.issue(0, 0));
        B.refused("a test that does not hold", () -> ready("issue 0 9 if rank>0;"), STATE, x -> x.issue(0, 0));
        C.due("one told", ready("issue 0 1;").issue(0, 0), 1);
    }

    /** So many of KIND 0 are DUE, and BODY 0 HAS so many. */
    private static ClothForce dressed(int due, int has) {
        ClothForce x = ready("issue 0 " + due + ";");
        for (int p = 0; p < has; p++) {
            x.issue(p, 0);
        }
        return x;
    }

    private static void issueAsManyAsDue() {
        C.test("promise 23, 'the BODY HAS as many of its KIND as are DUE': one fewer, and as many; another BODY has none");
        for (int due = 1; due <= 5; due++) {
            int many = due;
            C.due("one fewer", dressed(due, due - 1).issue(due - 1, 0), 1);
            B.refused("as many", () -> dressed(many, many), STATE, x -> x.issue(many, 0));
            C.due("another BODY", dressed(due, due).issue(due, 1), 1);
        }
    }

    private static void issueMoreThanDue() {
        C.test("promise 23, '(or more)': fewer are DUE than it HAS; worn out ones are not what it HAS");
        Bounds.Ready fewer = () -> {
            ClothForce x = dressed(3, 3);
            Checks.read(x, "issue 0 2;life 0 4;");
            return x;
        };
        B.refused("it HAS 3, 2 are DUE", fewer, STATE, x -> x.issue(3, 0));
        ClothForce x = fewer.make();
        x.day(3);
        C.due("WORN 3 of 4", x.issue(3, 0), STATE);
        x.day(4);
        C.due("WORN 4 of 4", x.issue(3, 0), 1);
        C.due("the second", x.issue(4, 0), 1);
        C.due("the third", x.issue(5, 0), STATE);
        C.due("told(0, 6)", x.told(0, 6), 5);
    }

    private static void issueOfItsKind() {
        C.test("promise 23, 'of its KIND': those of another KIND do not count");
        ClothForce x = ready("issue 0 1;issue 1 1;");
        Checks.wideSize(x, 1);
        x.piece(0, 1, 0, 0);
        x.piece(0, 1, 0, 0);
        C.due("of KIND 0", x.issue(0, 0), 1);
        C.due("of KIND 1", x.issue(6, 0), 1);
        C.due("of KIND 0 again", x.issue(1, 0), STATE);
        C.due("of KIND 1 again", x.issue(7, 0), STATE);
    }

    private static void issueOnTheDay() {
        C.test("promise 23, 'for THE DAY': DUE from a day on, MEASURES from a day on");
        ClothForce x = ready("from 3 issue 0 1;");
        x.size(0, 9, 9, 0, 0, 0, 0);
        x.piece(0, 1, 0, 0);
        x.measure(0, 0, 9, 4);
        x.day(2);
        C.due("the day ahead: none DUE", x.issue(0, 0), STATE);
        x.day(3);
        C.due("that day, of a SIZE that FITS from tomorrow on", x.issue(6, 0), STATE);
        x.day(4);
        C.due("the day from which it FITS", x.issue(6, 0), 1);
        C.due("another BODY", x.issue(0, 1), 1);
    }

    // ---- promise 24

    private static void back() {
        C.test("promise 24, 'no such PIECE'");
        B.outside("back(p, 0)", Camp::some, 0, LAST_PIECE, (x, p) -> x.back(p, 0));
        C.test("promise 24, 'no such STORE'");
        B.between("back(0, store)", Camp::some, 0, LAST_STORE, (x, s) -> x.back(WITH_BODY, s));
        B.between("back(0, store) of 4", Camp::fullOfStores, 0, 3, (x, s) -> x.back(WITH_BODY, s));
        backState();
        backWorn();
        backStays();
    }

    private static void backState() {
        C.test("promise 24, 'STATE: it is with no BODY': in a STORE, come back, FAILED, lost; BAD ahead of it");
        for (int p : new int[] {STORED, BACK, FAILED, LOST}) {
            for (int s = 0; s < Camp.STORES; s++) {
                int to = s;
                B.refused("back(" + p + ", " + s + ")", Camp::some, STATE, x -> x.back(p, to));
            }
            B.outside("back(" + p + ", store)", Camp::some, 0, LAST_STORE, (x, s) -> x.back(p, s));
        }
    }

    private static void backWorn() {
        C.test("promise 24, 'WORN': on the day of issue, the next one, the last one; summed");
        ClothForce x = ready("issue 0 9;life 0 9999;");
        x.day(1);
        for (int p = 0; p < 3; p++) {
            x.issue(p, 0);
        }
        C.due("on the day of issue", x.back(0, 0), 0);
        x.day(2);
        C.due("on the next day", x.back(1, 1), 1);
        x.issue(1, 0);
        C.due("again, on the day of issue", x.back(1, 1), 1);
        x.issue(1, 1);
        x.day(9999);
        C.due("on the last day, worn twice", x.back(1, 0), 9998);
        C.due("on the last day", x.back(2, 0), 9998);
    }

    private static void backStays() {
        C.test("promise 24, 'It comes back to a STORE': the one told, worn out too; to be had again");
        ClothForce x = ready("issue 0 1;life 0 3;");
        x.issue(0, 0);
        x.issue(1, 1);
        x.day(2);
        x.back(0, 1);
        C.due("stock(1, 0)", x.stock(1, 0), 1);
        C.due("told(0, 6)", x.told(0, 6), 0);
        C.due("issue(0, 0)", x.issue(0, 0), 1);
        x.day(3);
        C.due("back(1, 1), worn out", x.back(1, 1), 3);
        C.due("stock(1, 0)", x.stock(1, 0), 1);
        C.due("told(1, 7): no CHARGE", x.told(1, 7), 0);
    }

    // ---- promise 25

    private static void lost() {
        C.test("promise 25, 'no such PIECE'");
        B.outside("lost(p)", Camp::some, 0, LAST_PIECE, (x, p) -> x.lost(p));
        B.outside("lost(p) of none", ClothForce::new, 0, -1, (x, p) -> x.lost(p));
        C.test("promise 25, 'STATE: it is with no BODY': in a STORE, come back, FAILED, lost");
        for (int p : new int[] {STORED, BACK, FAILED, LOST}) {
            B.refused("lost(" + p + ")", Camp::some, STATE, x -> x.lost(p));
        }
        C.due("lost(0), with BODY 0: 100 * 6 / 10", Camp.some().lost(WITH_BODY), 60);
        lostLife();
        lostDown();
        lostPrices();
        lostOfTheDay();
        lostWhose();
        lostGone();
    }

    /** What is charged for one that was worn so many days. */
    private static int charge(String signs, int days) {
        ClothForce x = ready("issue 0 9;" + signs);
        x.issue(0, 0);
        x.day(days);
        int charge = x.lost(0);
        C.due("told(0, 7)", x.told(0, 7), charge);
        C.due("count(10)", x.count(10), charge);
        return charge;
    }

    private static void lostLife() {
        C.test("promise 25, 'LIFE less WORN; 0 at least': WORN 0, one below LIFE, LIFE, one above, far above");
        String signs = "life 0 10;price 0 50;";
        C.due("WORN 0", charge(signs, 0), 50);
        C.due("WORN 1", charge(signs, 1), 45);
        C.due("WORN 9", charge(signs, 9), 5);
        C.due("WORN 10", charge(signs, 10), 0);
        C.due("WORN 11", charge(signs, 11), 0);
        C.due("WORN 9999", charge(signs, 9999), 0);
        C.due("a LIFE of 1, WORN 0", charge("life 0 1;price 0 50;", 0), 50);
        C.due("a LIFE of 1, WORN 1", charge("life 0 1;price 0 50;", 1), 0);
        C.due("a LIFE of 9999, WORN 9998", charge("life 0 9999;price 0 9999;", 9998), 1);
        C.due("a LIFE of 9999, WORN 9999", charge("life 0 9999;price 0 9999;", 9999), 0);
    }

    private static void lostDown() {
        C.test("promise 25, 'divided down by LIFE': the next whole number below, or that itself");
        C.due("7 * 2 / 3", charge("life 0 3;price 0 7;", 1), 4);
        C.due("6 * 2 / 3", charge("life 0 3;price 0 6;", 1), 4);
        C.due("8 * 2 / 3", charge("life 0 3;price 0 8;", 1), 5);
        C.due("1 * 9998 / 9999", charge("life 0 9999;price 0 1;", 1), 0);
        C.due("1 * 9999 / 9999", charge("life 0 9999;price 0 1;", 0), 1);
        C.due("100 * 364 / 365, none told", charge("", 1), 99);
    }

    private static void lostPrices() {
        C.test("promise 25, 'PRICE times': the least and the greatest, none told");
        C.due("a PRICE of 0", charge("price 0 0;", 0), 0);
        C.due("a PRICE of 9999", charge("price 0 9999;", 0), 9999);
        C.due("9999 * 9998 / 9999", charge("life 0 9999;price 0 9999;", 1), 9998);
        C.due("none told", charge("", 0), 100);
    }

    private static void lostOfTheDay() {
        C.test("promise 25, 'both of THE DAY': those of the day of issue and of the next day do not count");
        String signs = "life 0 10;price 0 100;from 5 life 0 20;from 5 price 0 300;from 6 life 0 2;from 6 price 0 1;";
        C.due("the day ahead", charge(signs, 4), 60);
        C.due("that day", charge(signs, 5), 225);
        C.due("the day behind", charge(signs, 6), 0);
    }

    private static void lostWhose() {
        C.test("promise 25, 'CHARGE to the BODY with which it was': to no other, summed");
        ClothForce x = ready("issue 0 9;life 0 10;price 0 30;");
        x.issue(0, 0);
        x.back(0, 0);
        x.issue(0, 1);
        x.issue(1, 1);
        x.issue(2, 0);
        C.due("lost(0)", x.lost(0), 30);
        C.due("told(0, 7)", x.told(0, 7), 0);
        C.due("told(1, 7)", x.told(1, 7), 30);
        x.day(5);
        C.due("lost(1)", x.lost(1), 15);
        C.due("lost(2)", x.lost(2), 15);
        C.due("told(0, 7)", x.told(0, 7), 15);
        C.due("told(1, 7)", x.told(1, 7), 45);
        C.due("count(10)", x.count(10), 60);
    }

    private static void lostGone() {
        C.test("promise 25, 'it is GONE': it can not be lost, come back, be issued, moved, fail any more");
        Bounds.Ready gone = () -> {
            ClothForce x = Camp.some();
            x.lost(WITH_BODY);
            return x;
        };
        B.refused("lost(0)", gone, STATE, x -> x.lost(WITH_BODY));
        B.refused("back(0, 0)", gone, STATE, x -> x.back(WITH_BODY, 0));
        B.refused("issue(0, 0)", gone, STATE, x -> x.issue(WITH_BODY, 0));
        B.refused("move(0, 0)", gone, STATE, x -> x.move(WITH_BODY, 0));
        B.refused("fail(0)", gone, STATE, x -> x.fail(WITH_BODY));
        C.due("count(6)", gone.make().count(6), 3);
        C.due("told(0, 6)", gone.make().told(0, 6), 0);
    }

    // ---- promise 26

    private static void move() {
        C.test("promise 26, 'no such PIECE'");
        B.outside("move(p, 2)", Camp::some, 0, LAST_PIECE, (x, p) -> x.move(p, 2));
        C.test("promise 26, 'no such STORE'");
        B.between("move(6, store)", Camp::some, 1, LAST_STORE, (x, s) -> x.move(STORED, s));
        B.between("move(6, store) of 4", Camp::fullOfStores, 1, 3, (x, s) -> x.move(STORED, s));
        B.between("move(7, store)", Camp::some, 0, LAST_STORE - 1, (x, s) -> x.move(LAST_PIECE, s));
        moveSame();
        moveState();
        moveRoad();
        moveGoes();
    }

    private static void moveSame() {
        C.test("promise 26, 'BAD: also the same': where it is, in each STORE");
        B.refused("move(6, 0)", Camp::some, BAD, x -> x.move(STORED, 0));
        B.refused("move(1, 1)", Camp::some, BAD, x -> x.move(BACK, 1));
        B.refused("move(7, 2)", Camp::some, BAD, x -> x.move(LAST_PIECE, 2));
        ClothForce x = Camp.some();
        C.due("move(6, 1)", x.move(STORED, 1), 10);
        C.due("move(6, 1) again", x.move(STORED, 1), BAD);
        C.due("move(6, 0)", x.move(STORED, 0), 10);
    }

    private static void moveState() {
        C.test("promise 26, 'STATE: it is in no STORE': with a BODY, FAILED, lost; BAD ahead of it");
        for (int p : new int[] {WITH_BODY, FAILED, LOST}) {
            for (int s = 0; s < Camp.STORES; s++) {
                int to = s;
                B.refused("move(" + p + ", " + s + ")", Camp::some, STATE, x -> x.move(p, to));
            }
            B.outside("move(" + p + ", store)", Camp::some, 0, LAST_STORE, (x, s) -> x.move(p, s));
        }
    }

    private static void moveRoad() {
        C.test("promise 26, 'the ROAD': 50 at first, 0, 99, both ways");
        ClothForce x = ready("");
        C.due("move(0, 1)", x.move(0, 1), 50);
        x.road(0, 1, 0);
        C.due("move(1, 1)", x.move(1, 1), 0);
        C.due("move(1, 0)", x.move(1, 0), 0);
        x.road(1, 0, 99);
        C.due("move(1, 1)", x.move(1, 1), 99);
        C.due("move(1, 0)", x.move(1, 0), 99);
    }

    private static void moveGoes() {
        C.test("promise 26, 'from its STORE to another one': no other PIECE, no WORN, no CHARGE");
        ClothForce x = ready("issue 0 9;");
        x.day(4);
        x.move(5, 1);
        x.day(8);
        C.due("pieceOf(5, 3)", x.pieceOf(5, 3), 1);
        C.due("pieceOf(5, 5)", x.pieceOf(5, 5), 0);
        C.due("pieceOf(5, 6)", x.pieceOf(5, 6), 0);
        C.due("stock(0, 0)", x.stock(0, 0), 5);
        C.due("stock(1, 0)", x.stock(1, 0), 1);
        C.due("count(4)", x.count(4), 6);
        C.due("count(10)", x.count(10), 0);
        C.due("issue(5, 0)", x.issue(5, 0), 1);
    }

    // ---- promise 27

    private static void fail() {
        C.test("promise 27, 'no such PIECE'");
        B.outside("fail(p)", Camp::some, 0, LAST_PIECE, (x, p) -> x.fail(p));
        B.outside("fail(p) of none", ClothForce::new, 0, -1, (x, p) -> x.fail(p));
        B.outside("fail(p) of 36", Camp::fullOfPieces, 0, 35, (x, p) -> x.fail(p));
        C.due("fail of the last of 36", Camp.fullOfPieces().fail(35), 0);
        C.test("promise 27, 'STATE: it is GONE': FAILED, lost");
        B.refused("fail(3)", Camp::some, STATE, x -> x.fail(FAILED));
        B.refused("fail(4)", Camp::some, STATE, x -> x.fail(LOST));
        failWorn();
        failGone();
    }

    private static void failWorn() {
        C.test("promise 27, 'WORN': never issued, come back, with a BODY on the day of issue and on the last day");
        C.due("never issued", Camp.some().fail(STORED), 0);
        C.due("come back", Camp.some().fail(BACK), 2);
        C.due("with a BODY", Camp.some().fail(WITH_BODY), 4);
        ClothForce x = ready("issue 0 9;");
        x.issue(0, 0);
        x.issue(1, 0);
        C.due("on the day of issue", x.fail(0), 0);
        x.day(9999);
        C.due("on the last day", x.fail(1), 9999);
    }

    private static void failGone() {
        C.test("promise 27, 'it is GONE then': it can not fail, be lost, come back, be issued, moved any more; no CHARGE");
        for (int p : new int[] {WITH_BODY, STORED}) {
            Bounds.Ready gone = () -> {
                ClothForce x = Camp.some();
                x.fail(p);
                return x;
            };
            B.refused("fail", gone, STATE, x -> x.fail(p));
            B.refused("lost", gone, STATE, x -> x.lost(p));
            B.refused("back", gone, STATE, x -> x.back(p, 0));
            B.refused("issue", gone, STATE, x -> x.issue(p, 0));
            B.refused("move", gone, STATE, x -> x.move(p, 1));
            C.due("count(6)", gone.make().count(6), 3);
            C.due("count(10)", gone.make().count(10), 80);
            C.due("count(3)", gone.make().count(3), Camp.PIECES);
            C.due("lot(0, 1)", gone.make().lot(0, 1), 1);
        }
    }

    // ---- promise 28

    private static void stock() {
        C.test("promise 28, 'no such STORE'");
        B.between("stock(store, 0)", Camp::some, 0, LAST_STORE, (x, s) -> x.stock(s, 0));
        B.between("stock(store, 0) of 4", Camp::fullOfStores, 0, 3, (x, s) -> x.stock(s, 0));
        B.outside("stock(store, 0) of none", ClothForce::new, 0, -1, (x, s) -> x.stock(s, 0));
        C.test("promise 28, 'KINDS 0 to 3'");
        B.between("stock(0, kind)", Camp::some, 0, 3, (x, kind) -> x.stock(0, kind));
        stockIn();
        stockAll();
    }

    private static void stockIn() {
        C.test("promise 28, 'how many PIECES of a KIND are in it': none yet, none with a BODY, none GONE");
        ClothForce x = ready("issue 0 9;");
        for (int kind = 0; kind < 4; kind++) {
            C.due("stock(1, kind)", x.stock(1, kind), 0);
            C.due("stock(0, kind)", x.stock(0, kind), kind == 0 ? 6 : 0);
        }
        x.issue(0, 0);
        x.issue(1, 0);
        C.due("two with a BODY", x.stock(0, 0), 4);
        x.lost(0);
        x.fail(5);
        C.due("one of them lost, another one FAILED", x.stock(0, 0), 3);
        x.back(1, 1);
        C.due("one come back to STORE 1", x.stock(1, 0), 1);
        C.due("stock(0, 0)", x.stock(0, 0), 3);
    }

    private static void stockAll() {
        C.test("promise 28, 'Of a STORE': all 36, and worn out ones");
        ClothForce x = ready("issue 0 1;life 0 1;");
        for (int p = 6; p < 36; p++) {
            x.piece(0, 0, 0, 0);
        }
        C.due("stock(0, 0)", x.stock(0, 0), 36);
        C.due("stock(1, 0)", x.stock(1, 0), 0);
        x.issue(35, 0);
        x.day(9);
        x.back(35, 0);
        C.due("stock(0, 0), one worn out", x.stock(0, 0), 36);
    }
}
