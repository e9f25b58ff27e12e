/** Promises 34 to 37: sheets, what is read of them, counts. */
public final class SheetsTest {
    private static final int BAD = -1, FULL = -3, NONE = -4;
    private static final int NULL = -11, INDEX = -12, CAST = -13, SIZE = -14;
    private static final int BYTES = 0, SHORTS = 1, INTS = 2;
    private static final Checks C = new Checks();

    public static void main(String[] args) {
        sheet();
        sheetIsNew();
        sheetWrong();
        lay();
        layLowestBits();
        layWrong();
        scan();
        scanAnswers();
        scanNobody();
        scanIndex();
        scanNoMeasure();
        scanFirstMet();
        scanFull();
        scanCellsBeforeFull();
        scanWrong();
        count();
        countWrong();
        C.finish();
    }

    private static void sheet() {
        C.test("promise 34: sheet");
        ClothForce x = new ClothForce();
        for (int k = 0; k < 4; k++) {
            C.due("sheet(" + k + ", 2, 60)", x.sheet(k, 2, 60), 1);
            C.due("lay(" + k + ", 59, 0)", x.lay(k, 59, 0), 1);
        }
        C.due("sheet(0, 0, 0)", x.sheet(0, BYTES, 0), 1);
        C.due("count(12)", x.count(12), 0);
        C.due("lay(0, 0, 0)", x.lay(0, 0, 0), INDEX);
        C.due("sheet(0, 1, 7)", x.sheet(0, SHORTS, 7), 1);
        C.due("count(12)", x.count(12), 7);
    }

    private static void sheetIsNew() {
        C.test("promise 34: sheet, all cells 0 again");
        ClothForce x = new ClothForce();
        x.body(0, 0, 0);
        x.sheet(1, INTS, 9);
        for (int i = 0; i < 9; i++) {
            x.lay(1, i, 99);
        }
        x.sheet(1, INTS, 9);
        Checks.measured(x, 0, 1, 1, 1);
        C.due("scan(1, 2, 6)", x.scan(1, INTS, 6), 6);
        for (int what = 3; what <= 5; what++) {
            C.due("told(0, " + what + ")", x.told(0, what), 0);
        }
    }

    private static void sheetWrong() {
        C.test("promise 34: sheet, wrong numbers");
        ClothForce x = new ClothForce();
        x.sheet(0, BYTES, 5);
        C.due("sheet(-1, 0, 1)", x.sheet(-1, 0, 1), BAD);
        C.due("sheet(4, 0, 1)", x.sheet(4, 0, 1), BAD);
        C.due("sheet(0, -1, 1)", x.sheet(0, -1, 1), BAD);
        C.due("sheet(0, 3, 1)", x.sheet(0, 3, 1), BAD);
        C.due("sheet(0, 0, 61)", x.sheet(0, 0, 61), BAD);
        C.due("sheet(0, 0, -1)", x.sheet(0, 0, -1), SIZE);
        C.due("sheet(0, 0, min)", x.sheet(0, 0, Integer.MIN_VALUE), SIZE);
        C.due("sheet(0, 3, -1)", x.sheet(0, 3, -1), BAD);
        C.due("sheet(4, 0, -1)", x.sheet(4, 0, -1), BAD);
        C.due("count(12): the old one stays", x.count(12), 5);
    }

    private static void lay() {
        C.test("promise 35: lay");
        ClothForce x = new ClothForce();
        x.body(0, 0, 0);
        x.sheet(0, INTS, 3);
        x.sheet(3, INTS, 3);
        C.due("lay(0, 0, 250)", x.lay(0, 0, 250), 1);
        C.due("lay(0, 1, 170)", x.lay(0, 1, 170), 1);
        C.due("lay(0, 2, 30)", x.lay(0, 2, 30), 1);
        C.due("lay(0, 0, 100)", x.lay(0, 0, 100), 1);
        C.due("lay(3, 0, 7)", x.lay(3, 0, 7), 1);
        x.scan(0, INTS, 0);
        C.due("told(0, 3)", x.told(0, 3), 100);
        C.due("told(0, 4)", x.told(0, 4), 170);
        C.due("told(0, 5)", x.told(0, 5), 30);
    }

    /** What a CELL of a lane reads as after a number was laid; -1: as no MEASURE. */
    private static int cell(int lane, int v) {
        ClothForce x = new ClothForce();
        x.body(0, 0, 0);
        x.sheet(2, lane, 3);
        x.lay(2, 0, v);
        return x.scan(2, lane, 0) == -100 ? -1 : x.told(0, 3);
    }

    private static void layLowestBits() {
        C.test("promise 35: lay, the lowest bits, with a sign");
        C.due("a byte 127", cell(BYTES, 127), 127);
        C.due("a byte 128", cell(BYTES, 128), -1);
        C.due("a byte 255", cell(BYTES, 255), -1);
        C.due("a byte 256 + 5", cell(BYTES, 256 + 5), 5);
        C.due("a byte -128", cell(BYTES, -128), -1);
        C.due("a byte -129", cell(BYTES, -129), 127);
        C.due("a short 250", cell(SHORTS, 250), 250);
        C.due("a short 251", cell(SHORTS, 251), -1);
        C.due("a short 65536 + 9", cell(SHORTS, 65536 + 9), 9);
        C.due("a short 65535", cell(SHORTS, 65535), -1);
        C.due("a short -65536 + 8", cell(SHORTS, -65536 + 8), 8);
        C.due("an int 65536 + 9", cell(INTS, 65536 + 9), -1);
        C.due("an int 250", cell(INTS, 250), 250);
        C.due("an int min", cell(INTS, Integer.MIN_VALUE), -1);
        C.due("a byte min", cell(BYTES, Integer.MIN_VALUE), 0);
        C.due("a short max", cell(SHORTS, Integer.MAX_VALUE), -1);
    }

    private static void layWrong() {
        C.test("promise 35: lay, wrong numbers");
        ClothForce x = new ClothForce();
        C.due("lay(-1, 0, 0)", x.lay(-1, 0, 0), BAD);
        C.due("lay(4, 0, 0)", x.lay(4, 0, 0), BAD);
        C.due("lay(1, -1, 0)", x.lay(1, -1, 0), NULL);
        x.sheet(1, BYTES, 2);
        C.due("lay(1, 1, 0)", x.lay(1, 1, 0), 1);
        C.due("lay(1, 2, 0)", x.lay(1, 2, 0), INDEX);
        C.due("lay(1, -1, 0)", x.lay(1, -1, 0), INDEX);
        C.due("lay(1, max, 0)", x.lay(1, Integer.MAX_VALUE, 0), INDEX);
        C.due("lay(1, min, 0)", x.lay(1, Integer.MIN_VALUE, 0), INDEX);
        x.sheet(1, BYTES, -1);
        C.due("lay(1, 0, 0)", x.lay(1, 0, 0), 1);
    }

    /** So many BODIES; SHEET 0 has 60 CELLS of a lane, CELL i is i. */
    private static ClothForce ready(int bodies, int lane) {
        ClothForce x = new ClothForce();
        for (int b = 0; b < bodies; b++) {
            x.body(0, 0, 0);
        }
        x.sheet(0, lane, 60);
        for (int i = 0; i < 60; i++) {
            x.lay(0, i, i);
        }
        return x;
    }

    private static void scan() {
        C.test("promise 36: scan");
        ClothForce x = ready(2, SHORTS);
        x.day(4);
        C.due("scan(0, 1, 10)", x.scan(0, SHORTS, 10), 6);
        for (int b = 0; b < 2; b++) {
            for (int what = 0; what < 3; what++) {
                C.due("told(" + b + ", 3 + " + what + ")", x.told(b, 3 + what), 10 + 3 * b + what);
                C.due("known, a day ahead", x.known(b, what, 4, 3), 0);
                C.due("known before", x.known(b, what, 3, 4), 0);
                C.due("known later", x.known(b, what, 5, 6), 10 + 3 * b + what);
            }
        }
        C.due("scan(0, 1, 54)", x.scan(0, SHORTS, 54), 12);
        C.due("told(1, 5)", x.told(1, 5), 59);
        C.due("told(0, 3)", x.told(0, 3), 54);
        C.due("count(8)", x.count(8), 12);
    }

    private static void scanAnswers() {
        C.test("promise 36: scan, null and cast");
        ClothForce x = ready(1, BYTES);
        C.due("scan(1, 0, 0)", x.scan(1, BYTES, 0), NULL);
        C.due("scan(1, 0, -1)", x.scan(1, BYTES, -1), NULL);
        C.due("scan(0, 1, 0)", x.scan(0, SHORTS, 0), CAST);
        C.due("scan(0, 2, -1)", x.scan(0, INTS, -1), CAST);
        C.due("scan(0, 0, 0)", x.scan(0, BYTES, 0), 3);
        C.due("count(8)", x.count(8), 3);
    }

    private static void scanNobody() {
        C.test("promise 36: scan, without bodies");
        ClothForce x = ready(0, INTS);
        C.due("scan(0, 2, 0)", x.scan(0, INTS, 0), 0);
        C.due("scan(0, 2, 99)", x.scan(0, INTS, 99), 0);
        C.due("scan(0, 2, min)", x.scan(0, INTS, Integer.MIN_VALUE), 0);
        C.due("scan(0, 1, 0)", x.scan(0, SHORTS, 0), CAST);
        C.due("scan(2, 1, 0)", x.scan(2, SHORTS, 0), NULL);
        C.due("scan(0, 3, 0)", x.scan(0, 3, 0), BAD);
    }

    private static void scanIndex() {
        C.test("promise 36: scan, index");
        ClothForce x = ready(2, INTS);
        C.due("scan(0, 2, -1)", x.scan(0, INTS, -1), INDEX);
        C.due("scan(0, 2, 55)", x.scan(0, INTS, 55), INDEX);
        C.due("scan(0, 2, 60)", x.scan(0, INTS, 60), INDEX);
        C.due("scan(0, 2, max)", x.scan(0, INTS, Integer.MAX_VALUE), INDEX);
        C.due("scan(0, 2, min)", x.scan(0, INTS, Integer.MIN_VALUE), INDEX);
        C.due("count(8): none is told", x.count(8), 0);
        C.due("told(0, 3)", x.told(0, 3), 0);
        C.due("scan(0, 2, 54)", x.scan(0, INTS, 54), 6);
        C.due("scan(0, 2, 0)", x.scan(0, INTS, 0), 12);
    }

    private static void scanNoMeasure() {
        C.test("promise 36: scan, a cell that is no measure");
        ClothForce x = ready(2, INTS);
        x.lay(0, 7, 251);
        C.due("scan(0, 2, 7)", x.scan(0, INTS, 7), -100);
        C.due("scan(0, 2, 5)", x.scan(0, INTS, 5), -102);
        C.due("scan(0, 2, 2)", x.scan(0, INTS, 2), -105);
        C.due("count(8): none is told", x.count(8), 0);
        x.lay(0, 3, -1);
        C.due("scan(0, 2, 2)", x.scan(0, INTS, 2), -101);
        x.lay(0, 3, 250);
        x.lay(0, 7, 0);
        C.due("scan(0, 2, 2)", x.scan(0, INTS, 2), 6);
        C.due("told(0, 4)", x.told(0, 4), 250);
        C.due("told(1, 5)", x.told(1, 5), 0);
    }

    private static void scanFirstMet() {
        C.test("promise 36: scan, the first met");
        ClothForce x = ready(2, INTS);
        x.lay(0, 58, 300);
        C.due("scan(0, 2, 55): 58 ahead of 60", x.scan(0, INTS, 55), -103);
        C.due("scan(0, 2, 59): 60 alone", x.scan(0, INTS, 59), INDEX);
        x.lay(0, 0, -5);
        C.due("scan(0, 2, -1)", x.scan(0, INTS, -1), INDEX);
        C.due("count(8)", x.count(8), 0);
    }

    private static void scanFull() {
        C.test("promise 36: scan, 60 in all and more");
        ClothForce x = ready(12, BYTES);
        C.due("scan(0, 0, 0)", x.scan(0, BYTES, 0), 36);
        C.due("scan(0, 0, 24)", x.scan(0, BYTES, 24), FULL);
        C.due("count(8): none is told", x.count(8), 36);
        C.due("told(0, 3)", x.told(0, 3), 0);
        // 24 more have room, 36 have not.
        for (int i = 0; i < 24; i++) {
            C.due("measure", x.measure(0, 0, 1, 0), 37 + i);
        }
        C.due("scan(0, 0, 0)", x.scan(0, BYTES, 0), FULL);
        ClothForce y = ready(4, BYTES);
        for (int turn = 1; turn <= 5; turn++) {
            C.due("scan(0, 0, 0)", y.scan(0, BYTES, 0), 12 * turn);
        }
        C.due("scan(0, 0, 0)", y.scan(0, BYTES, 0), FULL);
        C.due("measure(0, 0, 1, 0)", y.measure(0, 0, 1, 0), FULL);
    }

    private static void scanCellsBeforeFull() {
        C.test("promise 36: scan, a fault of any cell is met ahead of full");
        ClothForce x = ready(12, BYTES);
        C.due("scan(0, 0, 0)", x.scan(0, BYTES, 0), 36);
        C.due("scan(0, 0, 25): the last is no cell", x.scan(0, BYTES, 25), INDEX);
        x.lay(0, 59, -1);
        C.due("scan(0, 0, 24): the last is no measure", x.scan(0, BYTES, 24), -135);
        C.due("scan(0, 0, 25): that first", x.scan(0, BYTES, 25), -134);
        C.due("scan(0, 0, 23): all are good", x.scan(0, BYTES, 23), FULL);
        x.lay(0, 24, -1);
        C.due("scan(0, 0, 24): the first", x.scan(0, BYTES, 24), -100);
        C.due("count(8): none is told", x.count(8), 36);
        ClothForce y = ready(4, BYTES);
        for (int turn = 1; turn <= 5; turn++) {
            C.due("scan(0, 0, 0)", y.scan(0, BYTES, 0), 12 * turn);
        }
        C.due("scan(0, 0, -1): no cell", y.scan(0, BYTES, -1), INDEX);
        C.due("scan(0, 0, 49): the last is no cell", y.scan(0, BYTES, 49), INDEX);
        C.due("scan(0, 1, 0)", y.scan(0, SHORTS, 0), CAST);
        C.due("scan(1, 0, 0)", y.scan(1, BYTES, 0), NULL);
        y.lay(0, 11, -7);
        C.due("scan(0, 0, 0): the last is no measure", y.scan(0, BYTES, 0), -111);
        C.due("scan(0, 0, 12)", y.scan(0, BYTES, 12), FULL);
    }

    private static void scanWrong() {
        C.test("promise 36: scan, wrong numbers");
        ClothForce x = ready(1, BYTES);
        C.due("scan(-1, 0, 0)", x.scan(-1, 0, 0), BAD);
        C.due("scan(4, 0, 0)", x.scan(4, 0, 0), BAD);
        C.due("scan(0, -1, 0)", x.scan(0, -1, 0), BAD);
        C.due("scan(0, 3, 0)", x.scan(0, 3, 0), BAD);
        C.due("scan(1, 3, 0): ahead of null", x.scan(1, 3, 0), BAD);
        C.due("count(8)", x.count(8), 0);
    }

    private static void count() {
        C.test("promise 37: count");
        ClothForce x = new ClothForce();
        Checks.read(x, "issue 0 5; price 0 40; life 0 20;");
        Checks.type(x, "abc");
        x.body(0, 0, 0);
        x.body(0, 0, 0);
        Checks.wideSize(x, 0);
        x.store();
        x.store();
        x.store();
        for (int p = 0; p < 9; p++) {
            x.piece(p % 3, 0, 0, 0);
        }
        x.measure(1, 0, 8, 0);
        x.day(6);
        for (int p = 0; p < 4; p++) {
            x.issue(p, p % 2);
        }
        x.fail(8);
        x.lost(0);
        x.day(11);
        x.lost(1);
        x.sheet(0, BYTES, 13);
        x.sheet(1, BYTES, 14);
        int[] due = {2, 1, 3, 9, 4, 2, 3, 3, 1, 11, 40 + 30, 3, 13};
        for (int what = 0; what < due.length; what++) {
            C.due("count(" + what + ")", x.count(what), due[what]);
        }
    }

    private static void countWrong() {
        C.test("promise 37: count, wrong numbers");
        ClothForce x = new ClothForce();
        C.due("count(12)", x.count(12), NONE);
        C.due("count(13)", x.count(13), BAD);
        C.due("count(-1)", x.count(-1), BAD);
        C.due("count(min)", x.count(Integer.MIN_VALUE), BAD);
        C.due("count(max)", x.count(Integer.MAX_VALUE), BAD);
    }
}
