/**
 * Promises 1 to 11: each sentence that names a bound, on both of its sides. A test's name tells the promise and, in
 * quotes, the sentence; numbers that are refused leave all as it was.
 */
public final class BoundsOfBodiesTest {
    private static final int BAD = -1, STATE = -2, FULL = -3, NONE = -4;
    private static final Checks C = new Checks();
    private static final Bounds B = new Bounds(C);

    public static void main(String[] args) {
        newObject();
        day();
        body();
        becomes();
        measure();
        known();
        told();
        size();
        fits();
        sized();
        chosen();
        C.finish();
    }

    /** BODIES without MEASURES, one for each chest told. */
    private static ClothForce withChests(int... chests) {
        ClothForce x = new ClothForce();
        for (int b = 0; b < chests.length; b++) {
            x.body(0, 0, 0);
            x.measure(b, 0, chests[b], 0);
        }
        return x;
    }

    // ---- promise 1

    private static void newObject() {
        newHasNoBody();
        newHasNoSize();
        newHasNoStore();
        newHasNoPiece();
        newHasNoRules();
        newHasNoTape();
        newDay();
        newSheets();
        newSharesNothing();
    }

    private static void newHasNoBody() {
        C.test("promise 1, 'Nothing': no BODY, no MEASURE");
        ClothForce x = new ClothForce();
        C.due("count(0)", x.count(0), 0);
        C.due("count(8)", x.count(8), 0);
        C.due("told(0, 0)", x.told(0, 0), BAD);
        C.due("becomes(0, 0, 0)", x.becomes(0, 0, 0), BAD);
        C.due("measure(0, 0, 0, 0)", x.measure(0, 0, 0, 0), BAD);
        C.due("known(0, 0, 0, 0)", x.known(0, 0, 0, 0), BAD);
        C.due("sized(0, 0, 0, 0)", x.sized(0, 0, 0, 0), BAD);
        C.due("due(0, 0, 0)", x.due(0, 0, 0), BAD);
        C.due("why(0, 0, 0)", x.why(0, 0, 0), BAD);
        C.due("chosen(0, 10, 2)", x.chosen(0, 10, 2), 0);
        C.due("parade(0, 0, 0)", x.parade(0, 0, 0), 0);
        C.due("parade(0, 0, 10)", x.parade(0, 0, 10), BAD);
        C.due("count(10)", x.count(10), 0);
        C.due("body(0, 0, 0)", x.body(0, 0, 0), 0);
    }

    private static void newHasNoSize() {
        C.test("promise 1, 'Nothing': no SIZE");
        ClothForce x = new ClothForce();
        x.body(0, 0, 0);
        x.store();
        C.due("count(1)", x.count(1), 0);
        C.due("fits(0, 0, 0)", x.fits(0, 0, 0), BAD);
        C.due("sized(0, 0, 50, 0)", x.sized(0, 0, 50, 0), 0);
        C.due("sized(0, 0, 50, 1)", x.sized(0, 0, 50, 1), NONE);
        C.due("sized(0, 0, 50, 2)", x.sized(0, 0, 50, 2), NONE);
        C.due("chosen(0, 10, 0)", x.chosen(0, 10, 0), 0);
        C.due("chosen(0, 10, 1)", x.chosen(0, 10, 1), 0);
        C.due("chosen(0, 10, 2)", x.chosen(0, 10, 2), 1);
        C.due("piece(0, 0, 0, 0)", x.piece(0, 0, 0, 0), BAD);
        C.due("size(0, ..)", Checks.wideSize(x, 0), 0);
    }

    private static void newHasNoStore() {
        C.test("promise 1, 'Nothing': no STORE");
        ClothForce x = new ClothForce();
        Checks.wideSize(x, 0);
        C.due("count(2)", x.count(2), 0);
        C.due("road(0, 1, 0)", x.road(0, 1, 0), BAD);
        C.due("piece(0, 0, 0, 0)", x.piece(0, 0, 0, 0), BAD);
        C.due("stock(0, 0)", x.stock(0, 0), BAD);
        C.due("order(0, 0)", x.order(0, 0), 0);
        C.due("order(0, 1)", x.order(0, 1), BAD);
        C.due("ordered(0, 0, 0, 1)", x.ordered(0, 0, 0, 1), BAD);
        C.due("store()", x.store(), 0);
    }

    private static void newHasNoPiece() {
        C.test("promise 1, 'Nothing': no PIECE");
        ClothForce x = new ClothForce();
        x.body(0, 0, 0);
        x.store();
        x.store();
        Checks.wideSize(x, 0);
        for (int what = 3; what <= 6; what++) {
            C.due("count(" + what + ")", x.count(what), 0);
        }
        C.due("pieceOf(0, 0)", x.pieceOf(0, 0), BAD);
        C.due("issue(0, 0)", x.issue(0, 0), BAD);
        C.due("back(0, 0)", x.back(0, 0), BAD);
        C.due("lost(0)", x.lost(0), BAD);
        C.due("move(0, 1)", x.move(0, 1), BAD);
        C.due("fail(0)", x.fail(0), BAD);
        C.due("stock(0, 0)", x.stock(0, 0), 0);
        C.due("told(0, 6)", x.told(0, 6), 0);
        C.due("lot(0, 0)", x.lot(0, 0), 0);
        C.due("worst()", x.worst(), NONE);
        C.due("parade(0, 99, 1)", x.parade(0, 99, 1), NONE);
        C.due("piece(0, 0, 0, 0)", x.piece(0, 0, 0, 0), 0);
    }

    private static void newHasNoRules() {
        C.test("promise 1, 'Nothing': no line told, no FAULT");
        ClothForce x = new ClothForce();
        x.body(0, 0, 0);
        C.due("count(7)", x.count(7), 0);
        C.due("fault()", x.fault(), 0);
        for (int kind = 0; kind < 4; kind++) {
            C.due("due", x.due(0, kind, 9999), 0);
            C.due("why", x.why(0, kind, 9999), NONE);
            C.due("rule, life", x.rule(kind, 0, 9999), 365);
            C.due("rule, price", x.rule(kind, 1, 9999), 100);
        }
    }

    private static void newHasNoTape() {
        C.test("promise 1, 'Nothing': no byte on THE TAPE");
        ClothForce x = new ClothForce();
        C.due("count(11)", x.count(11), 0);
        C.due("end(0)", x.end(0), 0);
        C.due("end(1)", x.end(1), BAD);
        C.due("text()", x.text(), 0);
        C.due("feed(0)", x.feed(0), 8);
    }

    private static void newDay() {
        C.test("promise 1, 'THE DAY 0'");
        ClothForce x = new ClothForce();
        C.due("count(9)", x.count(9), 0);
        C.due("day(0)", x.day(0), 0);
        C.due("day(1)", x.day(1), 0);
    }

    private static void newSheets() {
        C.test("promise 1, 'SHEETS have nothing'");
        ClothForce x = new ClothForce();
        for (int k = 0; k < 4; k++) {
            C.due("lay", x.lay(k, 0, 0), -11);
            for (int lane = 0; lane < 3; lane++) {
                C.due("scan", x.scan(k, lane, 0), -11);
            }
        }
        C.due("count(12)", x.count(12), NONE);
    }

    private static void newSharesNothing() {
        C.test("promise 1, 'Nothing': what another object holds is not in a new one");
        B.alike("a new object behind another", () -> {
            Camp.fullOfPieces().day(99);
            return new ClothForce();
        }, ClothForce::new);
        ClothForce x = Camp.some();
        new ClothForce().body(1, 1, 1);
        C.due("count(0)", x.count(0), Camp.BODIES);
        C.due("told(0, 0)", x.told(0, 0), 2);
    }

    // ---- promise 2

    private static void day() {
        dayBounds();
        dayNotAhead();
        dayWas();
        dayLast();
    }

    private static void dayBounds() {
        C.test("promise 2, 'THE DAY (0 to 9999': the least and the greatest");
        B.between("day(d)", ClothForce::new, 0, 9999, (x, d) -> x.day(d));
        ClothForce x = new ClothForce();
        C.due("day(9999)", x.day(9999), 0);
        C.due("count(9)", x.count(9), 9999);
    }

    private static void dayNotAhead() {
        C.test("promise 2, 'THE DAY becomes d, not ahead of it': the same day, the next one, the one ahead");
        C.due("day(7)", Camp.some().day(Camp.DAY), Camp.DAY);
        C.due("day(8)", Camp.some().day(Camp.DAY + 1), Camp.DAY);
        B.refused("day(6)", Camp::some, BAD, x -> x.day(Camp.DAY - 1));
        B.refused("day(0)", Camp::some, BAD, x -> x.day(0));
        B.refused("day(7)", Camp::some, Camp.DAY, x -> x.day(Camp.DAY));
    }

    private static void dayWas() {
        C.test("promise 2, 'what it was': behind refused ones too");
        ClothForce x = new ClothForce();
        C.due("day(0)", x.day(0), 0);
        C.due("day(4)", x.day(4), 0);
        C.due("day(3)", x.day(3), BAD);
        C.due("day(5)", x.day(5), 4);
        C.due("day(10000)", x.day(10000), BAD);
        C.due("day(9999)", x.day(9999), 5);
    }

    private static void dayLast() {
        C.test("promise 2, 'BAD': behind the last day there is none");
        Bounds.Ready last = () -> {
            ClothForce x = Camp.some();
            x.day(9999);
            return x;
        };
        C.due("day(9999)", last.make().day(9999), 9999);
        B.refused("day(9998)", last, BAD, x -> x.day(9998));
        B.refused("day(10000)", last, BAD, x -> x.day(10000));
    }

    // ---- promise 3

    private static void body() {
        C.test("promise 3, 'a RANK (0 to 5)'");
        B.between("body(rank, 0, 0)", Camp::some, 0, 5, (x, v) -> x.body(v, 0, 0));
        C.test("promise 3, 'a DUTY (0 to 3)'");
        B.between("body(0, duty, 0)", Camp::some, 0, 3, (x, v) -> x.body(0, v, 0));
        C.test("promise 3, 'a CLIMATE (0 to 2)'");
        B.between("body(0, 0, climate)", Camp::some, 0, 2, (x, v) -> x.body(0, 0, v));
        bodyNumbers();
        bodyFull();
        bodyBadAheadOfFull();
    }

    private static void bodyNumbers() {
        C.test("promise 3, 'A BODY: its number': from 0 on, a refused one takes none");
        ClothForce x = new ClothForce();
        C.due("body(0, 0, 3)", x.body(0, 0, 3), BAD);
        C.due("body(5, 3, 2)", x.body(5, 3, 2), 0);
        C.due("body(6, 3, 2)", x.body(6, 3, 2), BAD);
        C.due("body(0, 0, 0)", x.body(0, 0, 0), 1);
        C.due("told(0, 0)", x.told(0, 0), 5);
        C.due("told(0, 1)", x.told(0, 1), 3);
        C.due("told(0, 2)", x.told(0, 2), 2);
        C.due("told(1, 0)", x.told(1, 0), 0);
    }

    private static void bodyFull() {
        C.test("promise 3, 'BODIES (12)', 'FULL': the 12th and the 13th");
        ClothForce x = new ClothForce();
        for (int b = 0; b < 12; b++) {
            C.due("body", x.body(b % 6, 0, 0), b);
        }
        C.due("the 13th", x.body(0, 0, 0), FULL);
        C.due("told(11, 0)", x.told(11, 0), 5);
        C.due("told(12, 0)", x.told(12, 0), BAD);
        B.refused("the 13th body", Camp::fullOfBodies, FULL, y -> y.body(5, 3, 2));
    }

    private static void bodyBadAheadOfFull() {
        C.test("promise 3, 'the first that fits': BAD ahead of FULL");
        B.outside("body(rank, 0, 0)", Camp::fullOfBodies, 0, 5, (x, v) -> x.body(v, 0, 0));
        B.outside("body(0, duty, 0)", Camp::fullOfBodies, 0, 3, (x, v) -> x.body(0, v, 0));
        B.outside("body(0, 0, climate)", Camp::fullOfBodies, 0, 2, (x, v) -> x.body(0, 0, v));
    }

    // ---- promise 4

    private static void becomes() {
        C.test("promise 4, 'no such BODY'");
        B.between("becomes(b, 0, 1)", Camp::some, 0, Camp.BODIES - 1, (x, b) -> x.becomes(b, 0, 1));
        B.between("becomes(b, 0, 1) of 12", Camp::fullOfBodies, 0, 11, (x, b) -> x.becomes(b, 0, 1));
        C.test("promise 4, 'RANK (what 0), DUTY (1), CLIMATE (2)': no other");
        B.between("becomes(0, what, 0)", Camp::some, 0, 2, (x, what) -> x.becomes(0, what, 0));
        C.test("promise 4, 'a RANK (0 to 5)'");
        B.between("becomes(0, 0, v)", Camp::some, 0, 5, (x, v) -> x.becomes(0, 0, v));
        C.test("promise 4, 'a DUTY (0 to 3)'");
        B.between("becomes(0, 1, v)", Camp::some, 0, 3, (x, v) -> x.becomes(0, 1, v));
        C.test("promise 4, 'a CLIMATE (0 to 2)'");
        B.between("becomes(0, 2, v)", Camp::some, 0, 2, (x, v) -> x.becomes(0, 2, v));
        becomesWas();
    }

    private static void becomesWas() {
        C.test("promise 4, 'what it was': each for itself, behind refused ones too");
        int[] most = {5, 3, 2};
        for (int what = 0; what < 3; what++) {
            ClothForce x = new ClothForce();
            x.body(1, 1, 1);
            x.body(1, 1, 1);
            C.due("becomes(0, what, most)", x.becomes(0, what, most[what]), 1);
            C.due("becomes(0, what, most + 1)", x.becomes(0, what, most[what] + 1), BAD);
            C.due("becomes(0, what, -1)", x.becomes(0, what, -1), BAD);
            C.due("becomes(0, what, 0)", x.becomes(0, what, 0), most[what]);
            C.due("becomes(0, what, 0)", x.becomes(0, what, 0), 0);
            for (int other = 0; other < 3; other++) {
                C.due("told(0, other)", x.told(0, other), other == what ? 0 : 1);
                C.due("told(1, other)", x.told(1, other), 1);
            }
        }
    }

    // ---- promise 5

    private static void measure() {
        C.test("promise 5, 'no such BODY'");
        B.between("measure(b, 0, 1, 0)", Camp::some, 0, Camp.BODIES - 1, (x, b) -> x.measure(b, 0, 1, 0));
        B.between("measure(b, 0, 1, 0) of 12", Camp::fullOfBodies, 0, 11, (x, b) -> x.measure(b, 0, 1, 0));
        C.test("promise 5, 'MEASURES: 0 chest, 1 length, 2 foot': no other");
        B.between("measure(0, what, 1, 0)", Camp::some, 0, 2, (x, what) -> x.measure(0, what, 1, 0));
        C.test("promise 5, 'MEASURES (0 to 250 each)'");
        for (int what = 0; what < 3; what++) {
            int which = what;
            B.between("measure(0, " + what + ", v, 0)", Camp::some, 0, 250, (x, v) -> x.measure(0, which, v, 0));
        }
        C.test("promise 5, 'from a day (0 to 9999) on'");
        B.between("measure(0, 0, 1, from)", Camp::some, 0, 9999, (x, from) -> x.measure(0, 0, 1, from));
        measureKept();
        measureCount();
        measureFull();
        measureBadAheadOfFull();
    }

    private static void measureKept() {
        C.test("promise 5, 'A MEASURE is told': the least and the greatest of value and day are kept");
        ClothForce x = withChests(90);
        x.measure(0, 0, 0, 5);
        x.measure(0, 0, 250, 9999);
        C.due("known(0, 0, 0, 4)", x.known(0, 0, 0, 4), 90);
        C.due("known(0, 0, 0, 5)", x.known(0, 0, 0, 5), 0);
        C.due("known(0, 0, 0, 9998)", x.known(0, 0, 0, 9998), 0);
        C.due("known(0, 0, 0, 9999)", x.known(0, 0, 0, 9999), 250);
    }

    private static void measureCount() {
        C.test("promise 5, 'how many were told in all': of all BODIES, refused ones not counted");
        ClothForce x = new ClothForce();
        x.body(0, 0, 0);
        x.body(0, 0, 0);
        C.due("measure(0, 0, 7, 0)", x.measure(0, 0, 7, 0), 1);
        C.due("measure(2, 0, 7, 0)", x.measure(2, 0, 7, 0), BAD);
        C.due("measure(1, 2, 7, 0)", x.measure(1, 2, 7, 0), 2);
        C.due("measure(1, 2, 251, 0)", x.measure(1, 2, 251, 0), BAD);
        C.due("measure(0, 0, 7, 0), the same once more", x.measure(0, 0, 7, 0), 3);
    }

    private static void measureFull() {
        C.test("promise 5, 'At most 60 are told in all', 'FULL': the 60th and the 61st");
        ClothForce x = new ClothForce();
        for (int b = 0; b < 12; b++) {
            x.body(0, 0, 0);
        }
        for (int i = 1; i <= 60; i++) {
            C.due("measure", x.measure(i % 12, i % 3, 2 * i, 0), i);
        }
        C.due("the 61st", x.measure(0, 0, 1, 0), FULL);
        C.due("known of the 60th", x.known(0, 0, 0, 0), 120);
        C.due("known of the 59th", x.known(11, 2, 0, 0), 118);
        for (int what = 0; what < 3; what++) {
            int which = what;
            B.refused("the 61st, of " + what, Camp::fullOfMeasures, FULL, y -> y.measure(2, which, 250, 0));
        }
    }

    private static void measureBadAheadOfFull() {
        C.test("promise 5, 'the first that fits': BAD ahead of FULL");
        B.outside("measure(b, 0, 1, 0)", Camp::fullOfMeasures, 0, 2, (x, b) -> x.measure(b, 0, 1, 0));
        B.outside("measure(0, what, 1, 0)", Camp::fullOfMeasures, 0, 2, (x, what) -> x.measure(0, what, 1, 0));
        B.outside("measure(0, 0, v, 0)", Camp::fullOfMeasures, 0, 250, (x, v) -> x.measure(0, 0, v, 0));
        B.outside("measure(0, 0, 1, from)", Camp::fullOfMeasures, 0, 9999, (x, from) -> x.measure(0, 0, 1, from));
    }

    // ---- promise 6

    private static void known() {
        C.test("promise 6, 'no such BODY'");
        B.between("known(b, 0, 0, 0)", Camp::some, 0, Camp.BODIES - 1, (x, b) -> x.known(b, 0, 0, 0));
        C.test("promise 6, 'MEASURES: 0 chest, 1 length, 2 foot': no other");
        B.between("known(0, what, 0, 0)", Camp::some, 0, 2, (x, what) -> x.known(0, what, 0, 0));
        C.test("promise 6, 'a day k (0 to 9999)'");
        B.between("known(0, 0, k, 0)", Camp::some, 0, 9999, (x, k) -> x.known(0, 0, k, 0));
        C.test("promise 6, 'a day d (0 to 9999)'");
        B.between("known(0, 0, 0, d)", Camp::some, 0, 9999, (x, d) -> x.known(0, 0, 0, d));
        knownToldUpTo();
        knownDayOrAhead();
        knownLatestDay();
        knownToldLast();
        knownNone();
        knownOfThat();
        C.test("promise 6, an answer changes nothing");
        B.refused("known(0, 0, 3, 6)", Camp::some, 104, x -> x.known(0, 0, 3, 6));
    }

    private static void knownToldUpTo() {
        C.test("promise 6, 'of those told up to k': the day it was told, the one ahead of that, the last of all");
        ClothForce x = withChests();
        x.body(0, 0, 0);
        x.day(8);
        x.measure(0, 0, 77, 0);
        C.due("known(0, 0, 7, 9999)", x.known(0, 0, 7, 9999), 0);
        C.due("known(0, 0, 8, 0)", x.known(0, 0, 8, 0), 77);
        C.due("known(0, 0, 9, 0)", x.known(0, 0, 9, 0), 77);
        x.day(9999);
        x.measure(0, 0, 78, 1);
        C.due("known(0, 0, 9998, 9999)", x.known(0, 0, 9998, 9999), 77);
        C.due("known(0, 0, 9999, 9999)", x.known(0, 0, 9999, 9999), 78);
        C.due("known(0, 0, 9999, 0)", x.known(0, 0, 9999, 0), 77);
    }

    private static void knownDayOrAhead() {
        C.test("promise 6, 'whose day is d or ahead': the day itself, the one ahead of it, the last of all");
        ClothForce x = withChests();
        x.body(0, 0, 0);
        x.measure(0, 1, 88, 6);
        x.measure(0, 1, 89, 9999);
        C.due("known(0, 1, 9999, 5)", x.known(0, 1, 9999, 5), 0);
        C.due("known(0, 1, 0, 6)", x.known(0, 1, 0, 6), 88);
        C.due("known(0, 1, 0, 7)", x.known(0, 1, 0, 7), 88);
        C.due("known(0, 1, 0, 9998)", x.known(0, 1, 0, 9998), 88);
        C.due("known(0, 1, 0, 9999)", x.known(0, 1, 0, 9999), 89);
    }

    private static void knownLatestDay() {
        C.test("promise 6, 'that with the latest such day': also if one with a day ahead is told behind it");
        ClothForce x = withChests();
        x.body(0, 0, 0);
        x.measure(0, 2, 30, 5);
        x.measure(0, 2, 31, 4);
        x.measure(0, 2, 32, 6);
        C.due("known(0, 2, 0, 4)", x.known(0, 2, 0, 4), 31);
        C.due("known(0, 2, 0, 5)", x.known(0, 2, 0, 5), 30);
        C.due("known(0, 2, 0, 6)", x.known(0, 2, 0, 6), 32);
    }

    private static void knownToldLast() {
        C.test("promise 6, 'of one day the one told last': of those told up to k");
        ClothForce x = withChests(50, 60);
        x.measure(0, 0, 51, 0);
        C.due("known(0, 0, 0, 0)", x.known(0, 0, 0, 0), 51);
        x.day(1);
        x.measure(0, 0, 49, 0);
        C.due("known(0, 0, 0, 0)", x.known(0, 0, 0, 0), 51);
        C.due("known(0, 0, 1, 0)", x.known(0, 0, 1, 0), 49);
        C.due("known(1, 0, 1, 0)", x.known(1, 0, 1, 0), 60);
    }

    private static void knownNone() {
        C.test("promise 6, '0, if there is none'");
        ClothForce x = withChests();
        x.body(0, 0, 0);
        for (int what = 0; what < 3; what++) {
            C.due("known(0, what, 9999, 9999)", x.known(0, what, 9999, 9999), 0);
            C.due("told(0, 3 + what)", x.told(0, 3 + what), 0);
        }
        x.measure(0, 0, 250, 0);
        C.due("known(0, 1, 9999, 9999)", x.known(0, 1, 9999, 9999), 0);
        C.due("known(0, 2, 9999, 9999)", x.known(0, 2, 9999, 9999), 0);
    }

    private static void knownOfThat() {
        C.test("promise 6, 'a BODY's MEASURE': of no other BODY, no other MEASURE");
        ClothForce x = withChests(10, 20);
        x.measure(0, 1, 30, 0);
        x.measure(1, 2, 40, 0);
        int[][] due = {{10, 30, 0}, {20, 0, 40}};
        for (int b = 0; b < 2; b++) {
            for (int what = 0; what < 3; what++) {
                C.due("known(" + b + ", " + what + ", 0, 0)", x.known(b, what, 0, 0), due[b][what]);
            }
        }
    }

    // ---- promise 7

    private static void told() {
        C.test("promise 7, 'no such BODY'");
        B.between("told(b, 0)", Camp::some, 0, Camp.BODIES - 1, (x, b) -> x.told(b, 0));
        B.between("told(b, 23) of 12", Camp::fullOfBodies, 0, 11, (x, b) -> x.told(b, 23));
        toldWhat();
        toldMeasures();
        toldPieces();
        toldCharges();
        toldHas();
        toldDue();
        C.test("promise 7, an answer changes nothing");
        B.refused("told(0, 10)", Camp::some, 1, x -> x.told(0, 10));
        B.refused("told(1, 7)", Camp::some, 80, x -> x.told(1, 7));
    }

    private static void toldWhat() {
        C.test("promise 7, '0 .. 7', '10 and KIND', '20 and KIND': no other");
        for (int what = 0; what < 26; what++) {
            int which = what;
            boolean is = what <= 7 || what >= 10 && what <= 13 || what >= 20 && what <= 23;
            if (is) {
                C.due("told(0, " + what + ") is told", Camp.some().told(0, what) >= 0 ? 1 : 0, 1);
            } else {
                B.refused("told(0, " + what + ")", Camp::some, BAD, x -> x.told(0, which));
            }
        }
        B.outside("told(0, what)", Camp::some, 0, 23, (x, what) -> x.told(0, what));
    }

    private static void toldMeasures() {
        C.test("promise 7, '3 to 5 MEASURES': those known on THE DAY, for THE DAY");
        ClothForce x = withChests(50);
        x.measure(0, 0, 60, 1);
        x.measure(0, 1, 70, 2);
        C.due("told(0, 3) on day 0", x.told(0, 3), 50);
        C.due("told(0, 4) on day 0", x.told(0, 4), 0);
        x.day(1);
        C.due("told(0, 3) on day 1", x.told(0, 3), 60);
        C.due("told(0, 4) on day 1", x.told(0, 4), 0);
        x.day(2);
        C.due("told(0, 4) on day 2", x.told(0, 4), 70);
        C.due("told(0, 5) on day 2", x.told(0, 5), 0);
    }

    /** One BODY, PIECES 0 to 3 of KIND 0, 4 of KIND 3, all in STORE 0; a LIFE of 5 days, 9 DUE. */
    private static ClothForce outfit() {
        ClothForce x = withChests(0, 0);
        Checks.wideSize(x, 0);
        Checks.wideSize(x, 3);
        x.store();
        for (int p = 0; p < 5; p++) {
            x.piece(0, p / 4, 0, 0);
        }
        Checks.read(x, "issue 0 9;issue 3 9;life 0 5;price 0 50;life 3 6;");
        return x;
    }

    private static void toldPieces() {
        C.test("promise 7, '6 PIECES with it (worn out ones too)': none yet, worn out, come back, gone");
        ClothForce x = outfit();
        C.due("told(0, 6), none yet", x.told(0, 6), 0);
        for (int p = 0; p < 5; p++) {
            x.issue(p, 0);
            C.due("told(0, 6)", x.told(0, 6), p + 1);
        }
        C.due("told(1, 6)", x.told(1, 6), 0);
        x.day(9999);
        C.due("told(0, 6), all worn out", x.told(0, 6), 5);
        x.back(0, 0);
        C.due("told(0, 6), one back", x.told(0, 6), 4);
        x.lost(1);
        x.fail(2);
        C.due("told(0, 6), two gone", x.told(0, 6), 2);
    }

    private static void toldCharges() {
        C.test("promise 7, '7 its CHARGES, summed': none yet, one, two, its own alone");
        ClothForce x = outfit();
        C.due("told(0, 7), none yet", x.told(0, 7), 0);
        x.issue(0, 0);
        x.issue(1, 0);
        x.issue(2, 1);
        C.due("told(0, 7), none lost", x.told(0, 7), 0);
        x.lost(0);
        C.due("told(0, 7)", x.told(0, 7), 50);
        x.day(1);
        x.lost(1);
        C.due("told(0, 7)", x.told(0, 7), 90);
        C.due("told(1, 7)", x.told(1, 7), 0);
        x.fail(2);
        C.due("told(1, 7), one failed", x.told(1, 7), 0);
    }

    private static void toldHas() {
        C.test("promise 7, '10 and KIND: how many it HAS': WORN one below LIFE, and LIFE");
        ClothForce x = outfit();
        for (int kind = 0; kind < 4; kind++) {
            C.due("told(0, 10 + kind), none yet", x.told(0, 10 + kind), 0);
        }
        x.issue(0, 0);
        x.issue(4, 0);
        x.day(4);
        C.due("told(0, 10), WORN 4 of 5", x.told(0, 10), 1);
        x.day(5);
        C.due("told(0, 10), WORN 5 of 5", x.told(0, 10), 0);
        C.due("told(0, 13), WORN 5 of 6", x.told(0, 13), 1);
        C.due("told(0, 11)", x.told(0, 11), 0);
        C.due("told(0, 12)", x.told(0, 12), 0);
        x.day(6);
        C.due("told(0, 13), WORN 6 of 6", x.told(0, 13), 0);
        Checks.read(x, "life 0 6;from 7 life 0 9;life 3 7;");
        C.due("told(0, 10), WORN 6 of 6", x.told(0, 10), 0);
        C.due("told(0, 13), WORN 6 of 7", x.told(0, 13), 1);
        x.day(7);
        C.due("told(0, 10), WORN 7 of 9 from this day on", x.told(0, 10), 1);
    }

    private static void toldDue() {
        C.test("promise 7, '20 and KIND: how many are DUE': for THE DAY, none yet");
        ClothForce x = withChests(0);
        for (int kind = 0; kind < 4; kind++) {
            C.due("told(0, 20 + kind), none yet", x.told(0, 20 + kind), 0);
        }
        Checks.read(x, "issue 0 1;from 3 issue 0 9;from 4 issue 3 2;");
        x.day(2);
        C.due("told(0, 20) on day 2", x.told(0, 20), 1);
        x.day(3);
        C.due("told(0, 20) on day 3", x.told(0, 20), 9);
        C.due("told(0, 23) on day 3", x.told(0, 23), 0);
        x.day(4);
        C.due("told(0, 23) on day 4", x.told(0, 23), 2);
    }

    // ---- promise 8

    private static void size() {
        C.test("promise 8, 'KINDS 0 to 3'");
        B.between("size(kind, ..)", Camp::some, 0, 3, (x, kind) -> x.size(kind, 0, 1, 0, 1, 0, 1));
        C.test("promise 8, 'the least and the greatest of chest': 0 to 250");
        B.between("size(0, c0, 250, ..)", Camp::some, 0, 250, (x, v) -> x.size(0, v, 250, 0, 1, 0, 1));
        B.between("size(0, 0, c1, ..)", Camp::some, 0, 250, (x, v) -> x.size(0, 0, v, 0, 1, 0, 1));
        C.test("promise 8, 'the least and the greatest of length': 0 to 250");
        B.between("size(0, .., l0, 250, ..)", Camp::some, 0, 250, (x, v) -> x.size(0, 0, 1, v, 250, 0, 1));
        B.between("size(0, .., 0, l1, ..)", Camp::some, 0, 250, (x, v) -> x.size(0, 0, 1, 0, v, 0, 1));
        C.test("promise 8, 'the least and the greatest of foot': 0 to 250");
        B.between("size(0, .., f0, 250)", Camp::some, 0, 250, (x, v) -> x.size(0, 0, 1, 0, 1, v, 250));
        B.between("size(0, .., 0, f1)", Camp::some, 0, 250, (x, v) -> x.size(0, 0, 1, 0, 1, 0, v));
        sizeTurned();
        sizeNumbers();
        sizeFull();
        sizeBadAheadOfFull();
    }

    private static void sizeTurned() {
        C.test("promise 8, 'BAD: also a least one above its greatest': alike, and one above");
        for (int v : new int[] {0, 7, 249, 250}) {
            C.due("chest alike", Camp.some().size(0, v, v, 0, 1, 0, 1), Camp.SIZES);
            C.due("length alike", Camp.some().size(0, 0, 1, v, v, 0, 1), Camp.SIZES);
            C.due("foot alike", Camp.some().size(0, 0, 1, 0, 1, v, v), Camp.SIZES);
        }
        for (int v : new int[] {0, 7, 249}) {
            B.refused("chest one above " + v, Camp::some, BAD, x -> x.size(0, v + 1, v, 0, 1, 0, 1));
            B.refused("length one above " + v, Camp::some, BAD, x -> x.size(0, 0, 1, v + 1, v, 0, 1));
            B.refused("foot one above " + v, Camp::some, BAD, x -> x.size(0, 0, 1, 0, 1, v + 1, v));
        }
    }

    private static void sizeNumbers() {
        C.test("promise 8, 'A SIZE of a KIND: its number': from 0 on of all KINDS, a refused one takes none");
        ClothForce x = new ClothForce();
        C.due("size(4, ..)", Checks.wideSize(x, 4), BAD);
        C.due("size(3, ..)", Checks.wideSize(x, 3), 0);
        C.due("size(0, ..)", Checks.wideSize(x, 0), 1);
        C.due("size(-1, ..)", Checks.wideSize(x, -1), BAD);
        C.due("size(3, ..)", Checks.wideSize(x, 3), 2);
        x.body(0, 0, 0);
        C.due("sized(0, 3, 0, 0)", x.sized(0, 3, 0, 0), 2);
        C.due("sized(0, 0, 0, 1)", x.sized(0, 0, 0, 1), 1);
    }

    private static void sizeFull() {
        C.test("promise 8, 'SIZES (12)', 'FULL': the 12th and the 13th");
        ClothForce x = withChests(99);
        for (int s = 0; s < 12; s++) {
            C.due("size", x.size(s % 4, s == 11 ? 99 : 0, s == 11 ? 99 : 9, 0, 0, 0, 0), s);
        }
        C.due("the 13th", Checks.wideSize(x, 0), FULL);
        C.due("count(1)", x.count(1), 12);
        C.due("fits(11, 0, 0)", x.fits(11, 0, 0), 1);
        for (int kind = 0; kind < 4; kind++) {
            int of = kind;
            B.refused("the 13th size, of kind " + kind, Camp::fullOfSizes, FULL, y -> Checks.wideSize(y, of));
        }
    }

    private static void sizeBadAheadOfFull() {
        C.test("promise 8, 'the first that fits': BAD ahead of FULL");
        B.outside("size(kind, ..)", Camp::fullOfSizes, 0, 3, (x, kind) -> x.size(kind, 0, 1, 0, 1, 0, 1));
        B.outside("size(0, c0, 250, ..)", Camp::fullOfSizes, 0, 250, (x, v) -> x.size(0, v, 250, 0, 1, 0, 1));
        B.outside("size(0, .., 0, f1)", Camp::fullOfSizes, 0, 250, (x, v) -> x.size(0, 0, 1, 0, 1, 0, v));
        B.refused("a least above its greatest", Camp::fullOfSizes, BAD, x -> x.size(0, 0, 1, 3, 2, 0, 1));
    }

    // ---- promise 9

    private static void fits() {
        C.test("promise 9, 'no such SIZE'");
        B.between("fits(s, 0, 0)", Camp::some, 0, Camp.SIZES - 1, (x, s) -> x.fits(s, 0, 0));
        B.between("fits(s, 0, 0) of 12", Camp::fullOfSizes, 0, 11, (x, s) -> x.fits(s, 0, 0));
        C.test("promise 9, 'no such BODY'");
        B.between("fits(0, b, 0)", Camp::some, 0, Camp.BODIES - 1, (x, b) -> x.fits(0, b, 0));
        B.between("fits(0, b, 0) of 12", Camp::fullOfBodies, 0, 11, (x, b) -> x.fits(0, b, 0));
        C.test("promise 9, 'LEEWAY e (0 to 50)'");
        B.between("fits(0, 0, e)", Camp::some, 0, 50, (x, e) -> x.fits(0, 0, e));
        fitsEdges();
        fitsLeeway();
        fitsAllThree();
        fitsDay();
        C.test("promise 9, an answer changes nothing");
        B.refused("fits(2, 0, 10)", Camp::some, 1, x -> x.fits(2, 0, 10));
        B.refused("fits(2, 0, 0)", Camp::some, 0, x -> x.fits(2, 0, 0));
    }

    /** A BODY of which one MEASURE is v, and SIZE 0 that wants it from 60 to 70. */
    private static ClothForce onEdge(int what, int v) {
        ClothForce x = new ClothForce();
        x.body(0, 0, 0);
        x.measure(0, what, v, 0);
        int[] least = new int[3];
        int[] greatest = new int[3];
        least[what] = 60;
        greatest[what] = 70;
        x.size(1, least[0], greatest[0], least[1], greatest[1], least[2], greatest[2]);
        return x;
    }

    private static void fitsEdges() {
        C.test("promise 9, 'FITS a BODY, if all three MEASURES are in these': the least, the greatest, just outside");
        for (int what = 0; what < 3; what++) {
            C.due("the least less 1 of " + what, onEdge(what, 59).fits(0, 0, 0), 0);
            C.due("the least of " + what, onEdge(what, 60).fits(0, 0, 0), 1);
            C.due("the greatest of " + what, onEdge(what, 70).fits(0, 0, 0), 1);
            C.due("the greatest and 1 of " + what, onEdge(what, 71).fits(0, 0, 0), 0);
        }
    }

    private static void fitsLeeway() {
        C.test("promise 9, 'if each is no more than e outside': e outside, and one more, below and above");
        for (int what = 0; what < 3; what++) {
            for (int e : new int[] {1, 5, 49, 50}) {
                C.due(e + " below, of " + what, onEdge(what, 60 - e).fits(0, 0, e), 1);
                C.due(e + " above, of " + what, onEdge(what, 70 + e).fits(0, 0, e), 1);
                C.due(e + " and 1 below, of " + what, onEdge(what, 59 - e).fits(0, 0, e), 0);
                C.due(e + " and 1 above, of " + what, onEdge(what, 71 + e).fits(0, 0, e), 0);
            }
        }
    }

    private static void fitsAllThree() {
        C.test("promise 9, 'if each is no more than e outside': each for itself, not summed; one further is enough");
        ClothForce x = new ClothForce();
        x.body(0, 0, 0);
        Checks.measured(x, 0, 10, 90, 10);
        x.size(0, 15, 20, 80, 85, 15, 20);
        C.due("all three 5 outside, e 4", x.fits(0, 0, 4), 0);
        C.due("all three 5 outside, e 5", x.fits(0, 0, 5), 1);
        x.measure(0, 1, 91, 0);
        C.due("one 6 outside, e 5", x.fits(0, 0, 5), 0);
        C.due("one 6 outside, e 6", x.fits(0, 0, 6), 1);
    }

    private static void fitsDay() {
        C.test("promise 9, 'what is known on THE DAY, for THE DAY'; a BODY without MEASURES has 0");
        ClothForce x = new ClothForce();
        x.body(0, 0, 0);
        x.size(0, 0, 0, 0, 0, 0, 0);
        x.size(0, 1, 1, 0, 0, 0, 0);
        C.due("fits(0, 0, 0), none told", x.fits(0, 0, 0), 1);
        C.due("fits(1, 0, 0), none told", x.fits(1, 0, 0), 0);
        C.due("fits(1, 0, 1), none told", x.fits(1, 0, 1), 1);
        x.measure(0, 0, 1, 4);
        x.day(3);
        C.due("fits(1, 0, 0), a day ahead", x.fits(1, 0, 0), 0);
        x.day(4);
        C.due("fits(1, 0, 0), that day", x.fits(1, 0, 0), 1);
        C.due("fits(0, 0, 0), that day", x.fits(0, 0, 0), 0);
    }

    // ---- promise 10

    private static void sized() {
        C.test("promise 10, 'no such BODY'");
        B.between("sized(b, 0, 0, 0)", Camp::some, 0, Camp.BODIES - 1, (x, b) -> x.sized(b, 0, 0, 0));
        B.outside("sized(b, 0, 0, 2)", Camp::some, 0, Camp.BODIES - 1, (x, b) -> x.sized(b, 0, 0, 2));
        C.test("promise 10, 'KINDS 0 to 3'");
        B.between("sized(0, kind, 0, 0)", Camp::some, 0, 3, (x, kind) -> x.sized(0, kind, 0, 0));
        B.outside("sized(0, kind, 0, 2)", Camp::some, 0, 3, (x, kind) -> x.sized(0, kind, 0, 2));
        C.test("promise 10, 'LEEWAY e (0 to 50)': of how many, of the least");
        B.between("sized(0, 0, e, 0)", Camp::some, 0, 50, (x, e) -> x.sized(0, 0, e, 0));
        B.between("sized(0, 0, e, 1)", Camp::some, 0, 50, (x, e) -> x.sized(0, 0, e, 1));
        C.test("promise 10, '(what 0), (1), (2)': no other");
        B.between("sized(0, 0, 0, what)", Camp::some, 0, 2, (x, what) -> x.sized(0, 0, 0, what));
        sizedNotLookedAt();
        sizedHowMany();
        sizedNone();
        sizedUpTo50();
        sizedLeastLeeway();
        sizedDay();
        C.test("promise 10, 'the first that fits': BAD ahead of NONE");
        for (int asked = 1; asked <= 2; asked++) {
            int what = asked;
            C.due("sized(0, 3, 0, what)", Camp.some().sized(0, 3, 0, what), NONE);
            B.outside("sized(b, 3, 0, what)", Camp::some, 0, Camp.BODIES - 1, (x, b) -> x.sized(b, 3, 0, what));
        }
        B.outside("sized(0, 3, e, 1)", Camp::some, 0, 50, (x, e) -> x.sized(0, 3, e, 1));
        B.outside("sized(0, 3, 0, what)", Camp::some, 0, 2, (x, what) -> x.sized(0, 3, 0, what));
    }

    private static void sizedNotLookedAt() {
        C.test("promise 10, 'e is not looked at'");
        for (int e : new int[] {0, 50, -1, 51, Integer.MIN_VALUE, Integer.MAX_VALUE}) {
            ClothForce x = Camp.some();
            C.due("sized(0, 1, " + e + ", 2)", x.sized(0, 1, e, 2), 9);
            C.due("sized(0, 3, " + e + ", 2)", x.sized(0, 3, e, 2), NONE);
            C.due("sized(3, 1, " + e + ", 2)", x.sized(3, 1, e, 2), BAD);
            C.due("sized(0, 4, " + e + ", 2)", x.sized(0, 4, e, 2), BAD);
        }
    }

    private static void sizedHowMany() {
        C.test("promise 10, 'how many (what 0), the least (1)': e just enough, of that KIND alone");
        ClothForce x = withChests(100);
        x.size(2, 0, 250, 0, 0, 0, 0);
        x.size(1, 0, 97, 0, 0, 0, 0);
        x.size(1, 102, 120, 0, 0, 0, 0);
        x.size(1, 0, 96, 0, 0, 0, 0);
        int[] many = {0, 0, 1, 2, 3};
        int[] least = {NONE, NONE, 2, 1, 1};
        for (int e = 0; e <= 4; e++) {
            C.due("sized(0, 1, " + e + ", 0)", x.sized(0, 1, e, 0), many[e]);
            C.due("sized(0, 1, " + e + ", 1)", x.sized(0, 1, e, 1), least[e]);
        }
        C.due("sized(0, 1, 0, 2)", x.sized(0, 1, 0, 2), 2);
    }

    private static void sizedNone() {
        C.test("promise 10, 'the least (1; NONE)': none of that KIND yet, none that FITS");
        ClothForce x = withChests(100);
        for (int kind = 0; kind < 4; kind++) {
            C.due("how many, none yet", x.sized(0, kind, 50, 0), 0);
            C.due("the least, none yet", x.sized(0, kind, 50, 1), NONE);
            C.due("the least leeway, none yet", x.sized(0, kind, 50, 2), NONE);
        }
        x.size(0, 0, 49, 0, 0, 0, 0);
        C.due("how many, 51 outside", x.sized(0, 0, 50, 0), 0);
        C.due("the least, 51 outside", x.sized(0, 0, 50, 1), NONE);
        x.size(0, 0, 50, 0, 0, 0, 0);
        C.due("how many, 50 outside", x.sized(0, 0, 50, 0), 1);
        C.due("the least, 50 outside", x.sized(0, 0, 50, 1), 1);
        B.refused("sized(0, 3, 50, 1)", Camp::some, NONE, y -> y.sized(0, 3, 50, 1));
    }

    private static void sizedUpTo50() {
        C.test("promise 10, '(2; NONE: none up to 50': 0, 50 and 51, below and above");
        C.due("in it", onEdge(0, 60).sized(0, 1, 0, 2), 0);
        for (int what = 0; what < 3; what++) {
            C.due("50 below", onEdge(what, 10).sized(0, 1, 0, 2), 50);
            C.due("51 below", onEdge(what, 9).sized(0, 1, 0, 2), NONE);
            C.due("50 above", onEdge(what, 120).sized(0, 1, 0, 2), 50);
            C.due("51 above", onEdge(what, 121).sized(0, 1, 0, 2), NONE);
        }
        B.refused("sized(0, 3, 0, 2)", Camp::some, NONE, y -> y.sized(0, 3, 0, 2));
    }

    private static void sizedLeastLeeway() {
        C.test("promise 10, 'the least LEEWAY with which any does': all three MEASURES of one SIZE");
        ClothForce x = new ClothForce();
        x.body(0, 0, 0);
        Checks.measured(x, 0, 10, 10, 10);
        x.size(0, 10, 10, 10, 10, 19, 20);
        x.size(0, 13, 14, 0, 7, 13, 15);
        x.size(0, 14, 15, 10, 10, 10, 10);
        C.due("sized(0, 0, 0, 2)", x.sized(0, 0, 0, 2), 3);
        C.due("sized(0, 0, 2, 0)", x.sized(0, 0, 2, 0), 0);
        C.due("sized(0, 0, 3, 1)", x.sized(0, 0, 3, 1), 1);
    }

    private static void sizedDay() {
        C.test("promise 10, 'what is known on THE DAY, for THE DAY': the day from which, the one ahead of it");
        ClothForce x = withChests(10);
        x.size(0, 20, 20, 0, 0, 0, 0);
        x.measure(0, 0, 20, 4);
        x.day(3);
        C.due("how many on day 3", x.sized(0, 0, 9, 0), 0);
        C.due("the least on day 3", x.sized(0, 0, 9, 1), NONE);
        C.due("the least leeway on day 3", x.sized(0, 0, 9, 2), 10);
        x.day(4);
        C.due("how many on day 4", x.sized(0, 0, 0, 0), 1);
        C.due("the least on day 4", x.sized(0, 0, 0, 1), 0);
        C.due("the least leeway on day 4", x.sized(0, 0, 0, 2), 0);
    }

    // ---- promise 11

    private static void chosen() {
        C.test("promise 11, 'KINDS 0 to 3'");
        B.between("chosen(kind, 1, 0)", Camp::some, 0, 3, (x, kind) -> x.chosen(kind, 1, 0));
        C.test("promise 11, 'n (0 to 10)'");
        B.between("chosen(0, n, 0)", Camp::some, 0, 10, (x, n) -> x.chosen(0, n, 0));
        C.test("promise 11, 'what 0 .. 1 .. 2': no other");
        B.between("chosen(0, 1, what)", Camp::some, 0, 2, (x, what) -> x.chosen(0, 1, what));
        chosenNothingYet();
        chosenNone();
        chosenAtMost();
        chosenTenSizes();
        chosenStateOfKind();
        chosenFewest();
        chosenLeastSum();
        chosenAllBits();
        chosenDay();
    }

    private static void chosenIs(ClothForce x, int n, int many, int sizes, int out) {
        C.due("chosen(0, " + n + ", 0)", x.chosen(0, n, 0), many);
        C.due("chosen(0, " + n + ", 1)", x.chosen(0, n, 1), sizes);
        C.due("chosen(0, " + n + ", 2)", x.chosen(0, n, 2), out);
    }

    private static void chosenNothingYet() {
        C.test("promise 11, CHOSEN SIZES: no BODY, no SIZE yet");
        ClothForce x = new ClothForce();
        chosenIs(x, 10, 0, 0, 0);
        Checks.wideSize(x, 0);
        chosenIs(x, 10, 0, 0, 0);
        ClothForce y = withChests(1, 2);
        chosenIs(y, 10, 0, 0, 3);
        Checks.wideSize(y, 1);
        chosenIs(y, 10, 0, 0, 3);
    }

    private static void chosenNone() {
        C.test("promise 11, 'n at most': 0");
        ClothForce x = withChests(1, 2);
        Checks.wideSize(x, 0);
        chosenIs(x, 0, 0, 0, 3);
        chosenIs(x, 1, 2, 1, 0);
    }

    private static void chosenAtMost() {
        C.test("promise 11, 'that set of at most n': as many as n, one fewer, one more");
        ClothForce x = withChests(10, 20, 30);
        for (int s = 0; s < 3; s++) {
            x.size(0, 10 * s + 10, 10 * s + 10, 0, 0, 0, 0);
        }
        chosenIs(x, 1, 1, 1, 6);
        chosenIs(x, 2, 2, 3, 4);
        chosenIs(x, 3, 3, 7, 0);
        chosenIs(x, 4, 3, 7, 0);
        chosenIs(x, 10, 3, 7, 0);
    }

    private static ClothForce manySizes(int many) {
        ClothForce x = withChests(10, 20, 30, 40, 50, 60, 70, 80, 90, 100, 110, 120);
        for (int s = 0; s < many; s++) {
            x.size(0, 10 * s + 10, 10 * s + 10, 0, 0, 0, 0);
        }
        return x;
    }

    private static void chosenTenSizes() {
        C.test("promise 11, 'STATE: more than 10 SIZES of that KIND': ten, and eleven");
        chosenIs(manySizes(10), 10, 10, 1023, 4095 - 1023);
        chosenIs(manySizes(10), 9, 9, 511, 4095 - 511);
        for (int many = 11; many <= 12; many++) {
            int sizes = many;
            for (int n = 0; n <= 10; n += 5) {
                int of = n;
                for (int what = 0; what < 3; what++) {
                    int which = what;
                    B.refused("chosen of " + many, () -> manySizes(sizes), STATE, x -> x.chosen(0, of, which));
                }
            }
        }
        B.outside("chosen(0, n, 0) of 11", () -> manySizes(11), 0, 10, (x, n) -> x.chosen(0, n, 0));
        B.outside("chosen(0, 1, what) of 11", () -> manySizes(11), 0, 2, (x, what) -> x.chosen(0, 1, what));
    }

    private static void chosenStateOfKind() {
        C.test("promise 11, 'SIZES of that KIND': ten of it, and two of another");
        ClothForce x = manySizes(10);
        Checks.wideSize(x, 3);
        Checks.wideSize(x, 3);
        chosenIs(x, 10, 10, 1023, 4095 - 1023);
        C.due("chosen(3, 10, 1)", x.chosen(3, 10, 1), 1 << 10);
        C.due("chosen(3, 10, 2)", x.chosen(3, 10, 2), 0);
        ClothForce y = manySizes(11);
        Checks.wideSize(y, 3);
        C.due("chosen(3, 1, 1)", y.chosen(3, 1, 1), 1 << 11);
        C.due("chosen(0, 1, 1)", y.chosen(0, 1, 1), STATE);
    }

    private static void chosenFewest() {
        C.test("promise 11, 'of several the fewest SIZES': a SIZE that FITS no BODY more is left out");
        ClothForce x = withChests(10, 20, 30);
        x.size(0, 10, 20, 0, 0, 0, 0);
        x.size(0, 20, 30, 0, 0, 0, 0);
        x.size(0, 200, 250, 0, 0, 0, 0);
        x.size(0, 10, 30, 0, 0, 0, 0);
        chosenIs(x, 1, 3, 8, 0);
        chosenIs(x, 2, 3, 8, 0);
        chosenIs(x, 4, 3, 8, 0);
        ClothForce y = withChests(100);
        y.size(0, 0, 9, 0, 0, 0, 0);
        chosenIs(y, 1, 0, 0, 1);
    }

    private static void chosenLeastSum() {
        C.test("promise 11, 'then the least sum of 2 to the number of each'");
        ClothForce x = withChests(10, 20, 30);
        x.size(1, 0, 250, 0, 0, 0, 0);
        x.size(0, 30, 30, 0, 0, 0, 0);
        x.size(0, 20, 20, 0, 0, 0, 0);
        x.size(0, 10, 10, 0, 0, 0, 0);
        x.size(0, 20, 20, 0, 0, 0, 0);
        chosenIs(x, 1, 1, 2, 3);
        chosenIs(x, 2, 2, 6, 1);
        chosenIs(x, 3, 3, 14, 0);
        // Two pairs of SIZES FIT all four BODIES: 0 and 3 (a sum of 9), 1 and 2 (6).
        ClothForce y = withChests(10, 10, 20, 20);
        for (int b = 0; b < 4; b++) {
            y.measure(b, 1, 10 + 10 * (b % 2), 0);
        }
        y.size(0, 10, 10, 10, 20, 0, 0);
        y.size(0, 10, 20, 10, 10, 0, 0);
        y.size(0, 10, 20, 20, 20, 0, 0);
        y.size(0, 20, 20, 10, 20, 0, 0);
        chosenIs(y, 1, 2, 1, 12);
        chosenIs(y, 2, 4, 6, 0);
    }

    private static void chosenAllBits() {
        C.test("promise 11, '1 these SIZES (bits), 2 BODIES left out (bits)': the last of twelve");
        ClothForce x = withChests(1, 2, 3, 4, 5, 6, 7, 8, 9, 10, 11, 12);
        for (int s = 0; s < 11; s++) {
            Checks.wideSize(x, 1 + s % 3);
        }
        x.size(0, 12, 12, 0, 0, 0, 0);
        chosenIs(x, 1, 1, 1 << 11, (1 << 11) - 1);
        chosenIs(x, 0, 0, 0, (1 << 12) - 1);
    }

    private static void chosenDay() {
        C.test("promise 11, 'what is known on THE DAY, for THE DAY': the day from which, the one ahead of it");
        ClothForce x = withChests(10, 10);
        x.size(0, 10, 10, 0, 0, 0, 0);
        x.size(0, 20, 20, 0, 0, 0, 0);
        x.measure(1, 0, 20, 4);
        x.day(3);
        chosenIs(x, 1, 2, 1, 0);
        chosenIs(x, 2, 2, 1, 0);
        x.day(4);
        chosenIs(x, 1, 1, 1, 2);
        chosenIs(x, 2, 2, 3, 0);
    }
}
