/** Promises 19 to 28: stores, pieces and their way. */
public final class PiecesTest {
    private static final int BAD = -1, STATE = -2, FULL = -3, NONE = -4;
    private static final Checks C = new Checks();

    public static void main(String[] args) {
        store();
        road();
        piece();
        pieceOf();
        pieceOfWrong();
        issue();
        issueAltered();
        issueWornOut();
        issueDue();
        back();
        lost();
        lostCharge();
        lostShortLife();
        move();
        fail();
        stock();
        C.finish();
    }

    /** Two STORES, two BODIES, SIZE 0 of KIND 0 that FITS all, PIECES 0 to 3 of it in STORE 0, 3 DUE. */
    private static ClothForce ready() {
        ClothForce x = new ClothForce();
        x.store();
        x.store();
        x.body(0, 0, 0);
        x.body(0, 0, 0);
        Checks.wideSize(x, 0);
        for (int p = 0; p < 4; p++) {
            x.piece(0, 0, p, 10 * p);
        }
        Checks.read(x, "issue 0 3;life 0 10;price 0 100;");
        return x;
    }

    private static void store() {
        C.test("promise 19: store");
        ClothForce x = new ClothForce();
        for (int s = 0; s < 4; s++) {
            C.due("store()", x.store(), s);
        }
        C.due("the fifth", x.store(), FULL);
        C.due("count(2)", x.count(2), 4);
    }

    private static void road() {
        C.test("promise 20: road");
        ClothForce x = new ClothForce();
        x.store();
        C.due("road(0, 1, 5)", x.road(0, 1, 5), BAD);
        x.store();
        x.store();
        C.due("road(0, 1, 0)", x.road(0, 1, 0), 50);
        C.due("road(1, 0, 99)", x.road(1, 0, 99), 0);
        C.due("road(0, 1, 100)", x.road(0, 1, 100), BAD);
        C.due("road(0, 1, -1)", x.road(0, 1, -1), BAD);
        C.due("road(0, 1, 7)", x.road(0, 1, 7), 99);
        C.due("road(2, 1, 8)", x.road(2, 1, 8), 50);
        C.due("road(1, 2, 8)", x.road(1, 2, 8), 8);
        C.due("road(1, 1, 8)", x.road(1, 1, 8), BAD);
        C.due("road(3, 0, 8)", x.road(3, 0, 8), BAD);
        C.due("road(0, -1, 8)", x.road(0, -1, 8), BAD);
        C.due("road(-1, 0, 8)", x.road(-1, 0, 8), BAD);
    }

    private static void piece() {
        C.test("promise 21: piece");
        ClothForce x = new ClothForce();
        C.due("piece(0, 0, 0, 0)", x.piece(0, 0, 0, 0), BAD);
        x.store();
        C.due("piece(0, 0, 0, 0)", x.piece(0, 0, 0, 0), BAD);
        Checks.wideSize(x, 1);
        C.due("piece(0, 1, 0, 0)", x.piece(0, 1, 0, 0), BAD);
        C.due("piece(1, 0, 0, 0)", x.piece(1, 0, 0, 0), BAD);
        C.due("piece(-1, 0, 0, 0)", x.piece(-1, 0, 0, 0), BAD);
        C.due("piece(0, -1, 0, 0)", x.piece(0, -1, 0, 0), BAD);
        C.due("piece(0, 0, 6, 0)", x.piece(0, 0, 6, 0), BAD);
        C.due("piece(0, 0, -1, 0)", x.piece(0, 0, -1, 0), BAD);
        C.due("piece(0, 0, 0, 100)", x.piece(0, 0, 0, 100), BAD);
        C.due("piece(0, 0, 0, -1)", x.piece(0, 0, 0, -1), BAD);
        C.due("count(3)", x.count(3), 0);
        for (int p = 0; p < 36; p++) {
            C.due("piece", x.piece(0, 0, 5, 99), p);
        }
        C.due("the 37th", x.piece(0, 0, 0, 0), FULL);
        C.due("a wrong 37th", x.piece(0, 0, 0, 100), BAD);
        C.due("count(3)", x.count(3), 36);
    }

    private static void pieceIs(ClothForce x, int p, int... due) {
        for (int what = 0; what < due.length; what++) {
            C.due("pieceOf(" + p + ", " + what + ")", x.pieceOf(p, what), due[what]);
        }
    }

    private static void pieceOf() {
        C.test("promise 22: pieceOf, all its way");
        ClothForce x = ready();
        pieceIs(x, 2, 0, 2, 20, 0, NONE, 0, 0, 0, NONE);
        x.day(1);
        x.issue(2, 1);
        pieceIs(x, 2, 0, 2, 20, NONE, 1, 0, 1, 0, 1);
        x.day(4);
        pieceIs(x, 2, 0, 2, 20, NONE, 1, 3, 1, 0, 1);
        x.back(2, 1);
        x.day(6);
        pieceIs(x, 2, 0, 2, 20, 1, NONE, 3, 1, 0, 1);
        x.issue(2, 0);
        x.day(8);
        pieceIs(x, 2, 0, 2, 20, NONE, 0, 5, 2, 0, 0);
        x.fail(2);
        x.day(9);
        pieceIs(x, 2, 0, 2, 20, NONE, NONE, 5, 2, 1, 0);
        x.issue(3, 1);
        x.day(11);
        x.lost(3);
        x.day(12);
        pieceIs(x, 3, 0, 3, 30, NONE, NONE, 2, 1, 0, 1);
    }

    private static void pieceOfWrong() {
        C.test("promise 22: pieceOf, wrong numbers");
        ClothForce x = ready();
        C.due("pieceOf(4, 0)", x.pieceOf(4, 0), BAD);
        C.due("pieceOf(-1, 0)", x.pieceOf(-1, 0), BAD);
        C.due("pieceOf(0, 9)", x.pieceOf(0, 9), BAD);
        C.due("pieceOf(0, -1)", x.pieceOf(0, -1), BAD);
        C.due("pieceOf of a new object", new ClothForce().pieceOf(0, 0), BAD);
    }

    private static void issue() {
        C.test("promise 23: issue");
        ClothForce x = ready();
        C.due("issue(4, 0)", x.issue(4, 0), BAD);
        C.due("issue(-1, 0)", x.issue(-1, 0), BAD);
        C.due("issue(0, 2)", x.issue(0, 2), BAD);
        C.due("issue(0, -1)", x.issue(0, -1), BAD);
        C.due("issue(0, 0)", x.issue(0, 0), 1);
        C.due("issue(0, 0)", x.issue(0, 0), STATE);
        C.due("issue(0, 1)", x.issue(0, 1), STATE);
        C.due("stock(0, 0)", x.stock(0, 0), 3);
        x.fail(1);
        C.due("issue(1, 1)", x.issue(1, 1), STATE);
        C.due("pieceOf(1, 6)", x.pieceOf(1, 6), 0);
        C.due("count(5)", x.count(5), 1);
    }

    private static void issueAltered() {
        C.test("promise 23: issue, altered with leeway 5, not with 6");
        ClothForce x = ready();
        x.measure(0, 0, 100, 0);
        x.size(0, 101, 101, 0, 0, 0, 0);
        x.size(0, 105, 110, 0, 0, 0, 0);
        x.size(0, 106, 110, 0, 0, 0, 0);
        for (int s = 1; s <= 3; s++) {
            x.piece(1, s, 0, 0);
        }
        C.due("issue(6, 0)", x.issue(6, 0), STATE);
        C.due("issue(5, 0)", x.issue(5, 0), 0);
        C.due("issue(4, 0)", x.issue(4, 0), 0);
        x.measure(0, 0, 101, 0);
        C.due("issue(6, 0)", x.issue(6, 0), 0);
        C.due("told(0, 10)", x.told(0, 10), 3);
    }

    private static void issueWornOut() {
        C.test("promise 23: issue, worn out");
        ClothForce x = ready();
        x.issue(0, 0);
        x.issue(1, 0);
        x.day(9);
        x.back(0, 0);
        x.day(10);
        x.back(1, 0);
        C.due("issue(1, 1)", x.issue(1, 1), STATE);
        C.due("issue(0, 1)", x.issue(0, 1), 1);
        Checks.read(x, "issue 0 3;life 0 11;");
        C.due("issue(1, 1)", x.issue(1, 1), 1);
    }

    private static void issueDue() {
        C.test("promise 23: issue, as many as are due");
        ClothForce x = ready();
        Checks.read(x, "issue 0 2;life 0 10;from 4 issue 0 3;");
        C.due("issue(0, 0)", x.issue(0, 0), 1);
        C.due("issue(1, 0)", x.issue(1, 0), 1);
        C.due("issue(2, 0)", x.issue(2, 0), STATE);
        C.due("issue(2, 1)", x.issue(2, 1), 1);
        x.day(4);
        C.due("issue(3, 0)", x.issue(3, 0), 1);
        x.back(2, 0);
        C.due("issue(2, 0)", x.issue(2, 0), STATE);
        x.day(10);
        C.due("issue(2, 0), the first are worn out", x.issue(2, 0), 1);
        Checks.read(x, "issue 1 1;");
        x.piece(0, 0, 0, 0);
        C.due("issue(4, 1), none due", x.issue(4, 1), STATE);
    }

    private static void back() {
        C.test("promise 24: back");
        ClothForce x = ready();
        C.due("back(0, 0)", x.back(0, 0), STATE);
        x.issue(0, 0);
        C.due("back(0, 2)", x.back(0, 2), BAD);
        C.due("back(0, -1)", x.back(0, -1), BAD);
        C.due("back(4, 0)", x.back(4, 0), BAD);
        C.due("back(-1, 0)", x.back(-1, 0), BAD);
        C.due("back(0, 1)", x.back(0, 1), 0);
        x.issue(0, 1);
        x.day(3);
        C.due("back(0, 0)", x.back(0, 0), 3);
        C.due("back(0, 0)", x.back(0, 0), STATE);
        x.issue(0, 1);
        x.day(9999);
        C.due("back(0, 1)", x.back(0, 1), 9999);
        x.fail(0);
        C.due("back(0, 1)", x.back(0, 1), STATE);
    }

    private static void lost() {
        C.test("promise 25: lost");
        ClothForce x = ready();
        C.due("lost(4)", x.lost(4), BAD);
        C.due("lost(-1)", x.lost(-1), BAD);
        C.due("lost(0)", x.lost(0), STATE);
        x.issue(0, 1);
        C.due("lost(0)", x.lost(0), 100);
        C.due("lost(0)", x.lost(0), STATE);
        C.due("told(1, 7)", x.told(1, 7), 100);
        C.due("told(0, 7)", x.told(0, 7), 0);
        C.due("count(6)", x.count(6), 1);
        C.due("fail(0)", x.fail(0), STATE);
        C.due("move(0, 1)", x.move(0, 1), STATE);
        C.due("issue(0, 1)", x.issue(0, 1), STATE);
    }

    private static void lostCharge() {
        C.test("promise 25: lost, the charge by the day's life and price");
        ClothForce x = ready();
        Checks.read(x, "issue 0 9;life 0 7;price 0 100;from 8 life 0 9999;from 8 price 0 9999;");
        x.issue(0, 0);
        x.issue(1, 0);
        x.issue(2, 0);
        x.day(4);
        C.due("lost(0): 100 * 3 / 7", x.lost(0), 42);
        x.day(7);
        C.due("lost(1): worn out", x.lost(1), 0);
        x.day(8);
        C.due("lost(2)", x.lost(2), 9991);
        C.due("told(0, 7)", x.told(0, 7), 42 + 9991);
        C.due("count(10)", x.count(10), 42 + 9991);
        x.issue(3, 1);
        Checks.read(x, "");
        x.day(9);
        C.due("lost(3): 100 * 364 / 365", x.lost(3), 99);
        C.due("count(10)", x.count(10), 42 + 9991 + 99);
    }

    private static void lostShortLife() {
        C.test("promise 25: lost, a life of one day");
        ClothForce x = ready();
        Checks.read(x, "issue 0 9;life 0 1;price 0 77;");
        x.issue(0, 0);
        x.issue(1, 0);
        C.due("lost(0): on the day of its issue", x.lost(0), 77);
        x.day(1);
        C.due("lost(1): worn out", x.lost(1), 0);
        C.due("told(0, 7)", x.told(0, 7), 77);
    }

    private static void move() {
        C.test("promise 26: move");
        ClothForce x = ready();
        x.road(0, 1, 8);
        C.due("move(0, 0)", x.move(0, 0), BAD);
        C.due("move(0, 2)", x.move(0, 2), BAD);
        C.due("move(0, -1)", x.move(0, -1), BAD);
        C.due("move(0, -4)", x.move(0, -4), BAD);
        C.due("move(4, 1)", x.move(4, 1), BAD);
        C.due("move(-1, 1)", x.move(-1, 1), BAD);
        C.due("move(0, 1)", x.move(0, 1), 8);
        C.due("pieceOf(0, 3)", x.pieceOf(0, 3), 1);
        C.due("move(0, 0)", x.move(0, 0), 8);
        x.issue(0, 0);
        C.due("move(0, 0)", x.move(0, 0), STATE);
        C.due("move(0, 1)", x.move(0, 1), STATE);
        C.due("pieceOf(0, 5)", x.pieceOf(0, 5), 0);
    }

    private static void fail() {
        C.test("promise 27: fail");
        ClothForce x = ready();
        C.due("fail(4)", x.fail(4), BAD);
        C.due("fail(-1)", x.fail(-1), BAD);
        C.due("fail(0) in a store", x.fail(0), 0);
        C.due("fail(0)", x.fail(0), STATE);
        x.issue(1, 0);
        x.day(6);
        C.due("fail(1) with a body", x.fail(1), 6);
        C.due("told(0, 6)", x.told(0, 6), 0);
        C.due("told(0, 7)", x.told(0, 7), 0);
        C.due("lost(1)", x.lost(1), STATE);
        C.due("lot(1, 1)", x.lot(1, 1), 1);
        C.due("count(6)", x.count(6), 2);
        C.due("stock(0, 0)", x.stock(0, 0), 2);
    }

    private static void stock() {
        C.test("promise 28: stock");
        ClothForce x = ready();
        Checks.wideSize(x, 3);
        x.piece(1, 1, 0, 0);
        x.move(0, 1);
        C.due("stock(0, 0)", x.stock(0, 0), 3);
        C.due("stock(1, 0)", x.stock(1, 0), 1);
        C.due("stock(1, 3)", x.stock(1, 3), 1);
        C.due("stock(0, 3)", x.stock(0, 3), 0);
        x.issue(0, 0);
        C.due("stock(1, 0)", x.stock(1, 0), 0);
        C.due("stock(2, 0)", x.stock(2, 0), BAD);
        C.due("stock(-1, 0)", x.stock(-1, 0), BAD);
        C.due("stock(0, 4)", x.stock(0, 4), BAD);
        C.due("stock(0, -1)", x.stock(0, -1), BAD);
    }
}
