/**
 * Promises 34 to 37: each sentence that names a bound, on both of its sides. A test's name tells the promise and, in
 * quotes, the sentence; what is refused leaves all as it was.
 */
public final class BoundsOfSheetsTest {
    private static final int BAD = -1, FULL = -3, NONE = -4;
    private static final int NULL = -11, INDEX = -12, CAST = -13, SIZE = -14;
    private static final int BYTES = 0, SHORTS = 1, INTS = 2;
    private static final Checks C = new Checks();
    private static final Bounds B = new Bounds(C);

    public static void main(String[] args) {
        sheet();
        lay();
        scan();
        count();
        C.finish();
    }

    // ---- promise 34

    private static void sheet() {
        C.test("promise 34, 'SHEETS 0 to 3'");
        B.between("sheet(k, 0, 1)", Camp::some, 0, 3, (x, k) -> x.sheet(k, BYTES, 1));
        C.test("promise 34, 'BYTES (lane 0), SHORTS (1), INTS (2)': no other");
        B.between("sheet(3, lane, 1)", Camp::some, 0, 2, (x, lane) -> x.sheet(3, lane, 1));
        sheetCells();
        sheetBelow0();
        sheetBadAheadOfSize();
        sheetNew();
        sheetOthers();
    }

    private static void sheetCells() {
        C.test("promise 34, 'with 0 to 60 CELLS', 'BAD: also n above 60'");
        for (int lane = 0; lane < 3; lane++) {
            int of = lane;
            for (int n : new int[] {0, 1, 59, 60}) {
                ClothForce x = Camp.some();
                C.due("sheet(0, lane, " + n + ")", x.sheet(0, lane, n), 1);
                C.due("count(12)", x.count(12), n);
                C.due("lay at the last", x.lay(0, n - 1, 0), n == 0 ? INDEX : 1);
                C.due("lay behind it", x.lay(0, n, 0), INDEX);
            }
            for (int n : new int[] {61, 62, Integer.MAX_VALUE}) {
                B.refused("sheet(0, lane, " + n + ")", Camp::some, BAD, x -> x.sheet(0, of, n));
            }
        }
    }

    private static void sheetBelow0() {
        C.test("promise 34, '-14 (SIZE): n below 0': 0, and -1; it stays what it was, nothing too");
        for (int k = 0; k < 4; k++) {
            int of = k;
            for (int n : new int[] {-1, -2, -61, Integer.MIN_VALUE}) {
                B.refused("sheet(" + k + ", 0, " + n + ")", Camp::some, SIZE, x -> x.sheet(of, BYTES, n));
            }
            C.due("sheet(k, 0, 0)", Camp.some().sheet(k, BYTES, 0), 1);
        }
        ClothForce x = new ClothForce();
        C.due("sheet(0, 0, -1)", x.sheet(0, BYTES, -1), SIZE);
        C.due("lay(0, 0, 0)", x.lay(0, 0, 0), NULL);
        C.due("count(12)", x.count(12), NONE);
    }

    private static void sheetBadAheadOfSize() {
        C.test("promise 34, 'the first that fits': BAD ahead of -14");
        B.outside("sheet(k, 0, -1)", Camp::some, 0, 3, (x, k) -> x.sheet(k, BYTES, -1));
        B.outside("sheet(0, lane, -1)", Camp::some, 0, 2, (x, lane) -> x.sheet(0, lane, -1));
        B.outside("sheet(k, 0, 61)", Camp::some, 0, 3, (x, k) -> x.sheet(k, BYTES, 61));
    }

    /** The CELLS of a SHEET, read as chests of the one BODY; -1 for what is no MEASURE. */
    private static void cellsAre(ClothForce x, int k, int lane, int... due) {
        for (int i = 0; i < due.length; i++) {
            C.due("scan at " + i, x.scan(k, lane, i) == -100 ? -1 : x.told(0, 3), due[i]);
        }
    }

    private static void sheetNew() {
        C.test("promise 34, 'A SHEET is a new row of CELLS 0': longer, shorter, as long, of another lane");
        for (int n : new int[] {3, 6, 9}) {
            for (int lane = 0; lane < 3; lane++) {
                ClothForce x = new ClothForce();
                x.body(0, 0, 0);
                x.sheet(2, INTS, 6);
                for (int i = 0; i < 6; i++) {
                    x.lay(2, i, 99);
                }
                C.due("sheet(2, lane, " + n + ")", x.sheet(2, lane, n), 1);
                Checks.measured(x, 0, 1, 1, 1);
                for (int f = 0; f <= n - 3; f += 3) {
                    C.due("scan", x.scan(2, lane, f), 6 + f);
                    C.due("chest, length and foot", x.told(0, 3) + x.told(0, 4) + x.told(0, 5), 0);
                }
                C.due("scan behind them", x.scan(2, lane, n - 2), INDEX);
                C.due("scan as of the lane ahead", x.scan(2, INTS, 0) == CAST ? 1 : 0, lane == INTS ? 0 : 1);
            }
        }
    }

    private static void sheetOthers() {
        C.test("promise 34, 'A SHEET': none but the one told");
        for (int k = 0; k < 4; k++) {
            ClothForce x = new ClothForce();
            x.sheet(k, SHORTS, 5);
            for (int other = 0; other < 4; other++) {
                C.due("lay(" + other + ", 4, 0)", x.lay(other, 4, 0), other == k ? 1 : NULL);
            }
            C.due("count(12)", x.count(12), k == 0 ? 5 : NONE);
        }
    }

    // ---- promise 35

    private static void lay() {
        C.test("promise 35, 'BAD: k': SHEETS 0 to 3");
        B.between("lay(k, 0, 0)", () -> {
            ClothForce x = Camp.some();
            x.sheet(2, BYTES, 1);
            x.sheet(3, BYTES, 1);
            return x;
        }, 0, 3, (x, k) -> x.lay(k, 0, 0));
        layNull();
        layIndex();
        layBytes();
        layShorts();
        layInts();
        layOneCell();
    }

    private static void layNull() {
        C.test("promise 35, '-10 less the FAULT: NULL': nothing yet, whatever the CELL is; BAD ahead of it");
        for (int i : new int[] {0, -1, 59, 60, Integer.MIN_VALUE, Integer.MAX_VALUE}) {
            B.refused("lay(3, " + i + ", 0)", Camp::some, NULL, x -> x.lay(3, i, 0));
        }
        B.outside("lay(k, 0, 0) of nothing", ClothForce::new, 0, 3, (x, k) -> x.lay(k, 0, 0));
    }

    private static void layIndex() {
        C.test("promise 35, '-10 less the FAULT: INDEX': the first and the last CELL, one ahead, one behind; no CELL");
        for (int n : new int[] {1, 12, 60}) {
            Bounds.Ready ready = () -> {
                ClothForce x = Camp.some();
                x.sheet(0, INTS, n);
                return x;
            };
            C.due("lay at the first", ready.make().lay(0, 0, 0), 1);
            C.due("lay at the last", ready.make().lay(0, n - 1, 0), 1);
            for (int i : new int[] {-1, n, Integer.MIN_VALUE, Integer.MAX_VALUE}) {
                B.refused("lay(0, " + i + ", 7) of " + n, ready, INDEX, x -> x.lay(0, i, 7));
            }
        }
        for (int i : new int[] {-1, 0, 1}) {
            B.refused("lay(2, " + i + ", 7) of no CELL", Camp::some, INDEX, x -> x.lay(2, i, 7));
        }
    }

    /** What a CELL of a lane holds after a number was laid in it; -1 for what is no MEASURE. */
    private static void laid(int lane, int v, int due) {
        ClothForce x = new ClothForce();
        x.body(0, 0, 0);
        x.sheet(1, lane, 5);
        C.due("lay(1, 1, " + v + ")", x.lay(1, 1, v), 1);
        cellsAre(x, 1, lane, 0, due);
    }

    private static void layBytes() {
        C.test("promise 35, 'becomes v (its lowest bits)', 'all with a sign': BYTES at 127, 128, 255, 256, -1, -128, -129");
        int[][] all = {{0, 0}, {127, 127}, {128, -1}, {250, -1}, {255, -1}, {256, 0}, {256 + 127, 127}, {256 + 128, -1}, {-1, -1},
            {-128, -1}, {-129, 127}, {-256, 0}, {-255, 1}, {Integer.MAX_VALUE, -1}, {Integer.MIN_VALUE, 0}, {0x12345607, 7}};
        for (int[] one : all) {
            laid(BYTES, one[0], one[1]);
        }
    }

    private static void layShorts() {
        C.test("promise 35, 'becomes v (its lowest bits)', 'all with a sign': SHORTS at 250, 251, 32767, 32768, 65535, 65536, -1");
        int[][] all = {{0, 0}, {127, 127}, {128, 128}, {250, 250}, {251, -1}, {256, -1}, {32767, -1}, {32768, -1}, {65535, -1},
            {65536, 0}, {65536 + 250, 250}, {65536 + 251, -1}, {-1, -1}, {-32768, -1}, {-65536, 0}, {-65535, 1}, {-65286, 250},
            {-65285, -1}, {Integer.MAX_VALUE, -1}, {Integer.MIN_VALUE, 0}, {0x12340056, 0x56}};
        for (int[] one : all) {
            laid(SHORTS, one[0], one[1]);
        }
    }

    private static void layInts() {
        C.test("promise 35, 'becomes v', 'all with a sign': INTS at 250, 251, 65536, -1, the least, the greatest");
        int[][] all = {{0, 0}, {128, 128}, {250, 250}, {251, -1}, {256, -1}, {65536, -1}, {65536 + 250, -1}, {-1, -1}, {-256, -1},
            {-65536, -1}, {Integer.MAX_VALUE, -1}, {Integer.MIN_VALUE, -1}, {Integer.MIN_VALUE + 1, -1}};
        for (int[] one : all) {
            laid(INTS, one[0], one[1]);
        }
    }

    private static void layOneCell() {
        C.test("promise 35, 'CELL i of a SHEET': that one alone, of that SHEET alone; laid again");
        ClothForce x = new ClothForce();
        x.body(0, 0, 0);
        x.sheet(0, BYTES, 5);
        x.sheet(1, BYTES, 5);
        x.lay(0, 0, 11);
        x.lay(0, 2, 22);
        x.lay(0, 2, 33);
        cellsAre(x, 0, BYTES, 11, 0, 33);
        cellsAre(x, 1, BYTES, 0, 0, 0);
    }

    // ---- promise 36

    private static void scan() {
        C.test("promise 36, 'BAD: k': SHEETS 0 to 3");
        B.outside("scan(k, 1, 0)", Camp::some, 0, 3, (x, k) -> x.scan(k, SHORTS, 0));
        C.due("scan of SHEET 0", Camp.some().scan(0, SHORTS, 0), Camp.MEASURES + 9);
        ClothForce x = Camp.some();
        x.sheet(3, INTS, 9);
        C.due("scan of SHEET 3", x.scan(3, INTS, 0), Camp.MEASURES + 9);
        C.test("promise 36, 'BAD: lane': 0 to 2");
        B.outside("scan(0, lane, 0)", Camp::some, 0, 2, (y, lane) -> y.scan(0, lane, 0));
        scanBadFirst();
        scanNull();
        scanCast();
        scanCastWithoutBodies();
        scanIndexAhead();
        scanIndexBehind();
        scanIndexLater();
        scanNoMeasure();
        scanEachCell();
        scanFirstMet();
        scanFull();
        scanCellsAheadOfFull();
        scanWithoutBodies();
        scanOrder();
        scanFromTheDay();
    }

    private static void scanBadFirst() {
        C.test("promise 36, 'the first that fits': BAD ahead of NULL, CAST and INDEX");
        B.outside("scan(k, 0, -1)", ClothForce::new, 0, 3, (x, k) -> x.scan(k, BYTES, -1));
        B.outside("scan(3, lane, -1)", Camp::some, 0, 2, (x, lane) -> x.scan(3, lane, -1));
        B.outside("scan(0, lane, 99)", Camp::some, 0, 2, (x, lane) -> x.scan(0, lane, 99));
    }

    private static void scanNull() {
        C.test("promise 36, '-10 less the FAULT: NULL': nothing yet, with each lane, without BODIES, ahead of INDEX");
        for (int lane = 0; lane < 3; lane++) {
            int of = lane;
            B.refused("scan(3, " + lane + ", 0)", Camp::some, NULL, x -> x.scan(3, of, 0));
            B.refused("scan(3, " + lane + ", -1)", Camp::some, NULL, x -> x.scan(3, of, -1));
            C.due("without BODIES", new ClothForce().scan(0, lane, 0), NULL);
        }
    }

    private static void scanCast() {
        C.test("promise 36, 'CAST (another lane)': each of each, ahead of INDEX and of no MEASURE");
        for (int lane = 0; lane < 3; lane++) {
            for (int as = 0; as < 3; as++) {
                int is = lane;
                int of = as;
                Bounds.Ready ready = () -> {
                    ClothForce x = Camp.some();
                    x.sheet(1, is, 60);
                    x.lay(1, 20, -1);
                    return x;
                };
                if (as == lane) {
                    C.due("scan as of its own lane", ready.make().scan(1, as, 0), Camp.MEASURES + 9);
                } else {
                    B.refused("scan as of another lane", ready, CAST, x -> x.scan(1, of, 0));
                    B.refused("scan as of another lane, f -1", ready, CAST, x -> x.scan(1, of, -1));
                    B.refused("scan as of another lane, no MEASURE", ready, CAST, x -> x.scan(1, of, 20));
                }
            }
        }
        B.refused("scan of no CELL", Camp::some, CAST, x -> x.scan(2, INTS, 0));
    }

    private static void scanCastWithoutBodies() {
        C.test("promise 36, 'CAST (without BODIES, too)'");
        for (int lane = 0; lane < 3; lane++) {
            for (int as = 0; as < 3; as++) {
                ClothForce x = new ClothForce();
                x.sheet(1, lane, 0);
                C.due("scan(1, " + as + ", 0)", x.scan(1, as, 0), as == lane ? 0 : CAST);
                C.due("scan(1, " + as + ", -9)", x.scan(1, as, -9), as == lane ? 0 : CAST);
            }
        }
    }

    /** So many BODIES; SHEET 0 of so many CELLS of INTS, all 7. */
    private static ClothForce table(int bodies, int cells) {
        ClothForce x = new ClothForce();
        for (int b = 0; b < bodies; b++) {
            x.body(0, 0, 0);
        }
        x.sheet(0, INTS, cells);
        for (int i = 0; i < cells; i++) {
            x.lay(0, i, 7);
        }
        return x;
    }

    private static void scanIndexAhead() {
        C.test("promise 36, 'CELL by CELL INDEX': f 0, and -1, -3, the least number");
        C.due("scan(0, 2, 0)", table(1, 3).scan(0, INTS, 0), 3);
        for (int f : new int[] {-1, -2, -3, -60, Integer.MIN_VALUE, Integer.MIN_VALUE + 1}) {
            B.refused("scan(0, 2, " + f + ")", () -> table(1, 3), INDEX, x -> x.scan(0, INTS, f));
            B.refused("scan(0, 1, " + f + ") of Camp", Camp::some, INDEX, x -> x.scan(0, SHORTS, f));
        }
    }

    private static void scanIndexBehind() {
        C.test("promise 36, 'CELL by CELL INDEX': the last f with room for all CELLS, one more; the greatest number");
        int[] bodies = {1, 2, 3, 12};
        for (int many : bodies) {
            for (int cells : new int[] {36, 37, 59, 60}) {
                int last = cells - 3 * many;
                C.due("the last f", table(many, cells).scan(0, INTS, last), 3 * many);
                for (int f : new int[] {last + 1, cells - 1, cells, cells + 1, Integer.MAX_VALUE, Integer.MAX_VALUE - 3}) {
                    ClothForce x = table(many, cells);
                    C.due("scan(0, 2, " + f + ") of " + cells, x.scan(0, INTS, f), INDEX);
                    C.due("count(8)", x.count(8), 0);
                }
            }
        }
        B.refused("one CELL too few", () -> table(2, 5), INDEX, x -> x.scan(0, INTS, 0));
        B.refused("no CELL", () -> table(1, 0), INDEX, x -> x.scan(0, INTS, 0));
    }

    private static void scanIndexLater() {
        C.test("promise 36, 'then none is told': the last CELL alone is behind the SHEET, or no MEASURE");
        B.refused("the last behind the SHEET", Camp::some, INDEX, x -> x.scan(0, SHORTS, 4));
        C.due("one less", Camp.some().scan(0, SHORTS, 3), Camp.MEASURES + 9);
        Bounds.Ready flawed = () -> {
            ClothForce x = Camp.some();
            x.lay(0, 11, 251);
            return x;
        };
        B.refused("the last no MEASURE", flawed, -108, x -> x.scan(0, SHORTS, 3));
        C.due("one less", flawed.make().scan(0, SHORTS, 2), Camp.MEASURES + 9);
    }

    private static void scanNoMeasure() {
        C.test("promise 36, 'CELL f + i is no MEASURE (0 to 250)': 0 and 250, -1 and 251");
        for (int lane = SHORTS; lane <= INTS; lane++) {
            for (int v : new int[] {0, 1, 249, 250, -1, 251, -250, 256}) {
                ClothForce x = new ClothForce();
                x.body(0, 0, 0);
                x.sheet(0, lane, 3);
                x.lay(0, 1, v);
                boolean is = v >= 0 && v <= 250;
                C.due("scan of " + v, x.scan(0, lane, 0), is ? 3 : -101);
                C.due("told(0, 4)", x.told(0, 4), is ? v : 0);
                C.due("count(8)", x.count(8), is ? 3 : 0);
            }
        }
        ClothForce x = new ClothForce();
        x.body(0, 0, 0);
        x.sheet(0, BYTES, 3);
        x.lay(0, 2, 127);
        C.due("scan of a byte 127", x.scan(0, BYTES, 0), 3);
        x.lay(0, 2, 128);
        C.due("scan of a byte 128", x.scan(0, BYTES, 0), -102);
    }

    private static void scanEachCell() {
        C.test("promise 36, '-100 less i: CELL f + i is no MEASURE': the first, the last of 36; i counts from f");
        for (int i = 0; i < 36; i++) {
            for (int f : new int[] {0, 24}) {
                ClothForce x = table(12, 60);
                x.lay(0, f + i, -1);
                C.due("scan(0, 2, " + f + ")", x.scan(0, INTS, f), -100 - i);
                C.due("count(8)", x.count(8), 0);
            }
        }
        ClothForce x = table(1, 9);
        x.lay(0, 2, -1);
        x.lay(0, 6, -1);
        C.due("between them", x.scan(0, INTS, 3), 3);
        C.due("one ahead", x.scan(0, INTS, 2), -100);
        C.due("one behind", x.scan(0, INTS, 4), -102);
    }

    private static void scanFirstMet() {
        C.test("promise 36, 'the first met': of two CELLS the first; of no MEASURE and INDEX the first");
        ClothForce x = table(2, 8);
        x.lay(0, 3, 300);
        x.lay(0, 5, -300);
        C.due("two that are no MEASURE", x.scan(0, INTS, 1), -102);
        C.due("the other one first", x.scan(0, INTS, 4), -101);
        C.due("no MEASURE at 3 ahead of INDEX", x.scan(0, INTS, 3), -100);
        C.due("no MEASURE at 5 ahead of INDEX", x.scan(0, INTS, 5), -100);
        C.due("INDEX alone", x.scan(0, INTS, 6), INDEX);
        C.due("INDEX ahead of no MEASURE", x.scan(0, INTS, -1), INDEX);
        C.due("INDEX ahead of no MEASURE at 3", x.scan(0, INTS, -3), INDEX);
        C.due("count(8)", x.count(8), 0);
    }

    /** Of so many BODIES so many MEASURES are told. */
    private static ClothForce filled(int bodies, int told) {
        ClothForce x = table(bodies, 60);
        for (int i = 0; i < told; i++) {
            x.measure(0, 0, 1, 0);
        }
        return x;
    }

    private static void scanFull() {
        C.test("promise 36, 'FULL: more than 60 in all': 60, and 61");
        for (int bodies : new int[] {1, 2, 12}) {
            int many = bodies;
            int room = 60 - 3 * bodies;
            C.due("60 in all", filled(bodies, room).scan(0, INTS, 0), 60);
            C.due("59 in all", filled(bodies, room - 1).scan(0, INTS, 0), 59);
            B.refused("61 in all", () -> filled(many, room + 1), FULL, x -> x.scan(0, INTS, 0));
            B.refused("60 told ahead", () -> filled(many, 60), FULL, x -> x.scan(0, INTS, 0));
        }
        ClothForce x = filled(1, 57);
        C.due("scan", x.scan(0, INTS, 0), 60);
        C.due("scan again", x.scan(0, INTS, 0), FULL);
        C.due("measure", x.measure(0, 0, 1, 0), FULL);
        C.due("told(0, 3)", x.told(0, 3), 7);
    }

    private static void scanCellsAheadOfFull() {
        C.test("promise 36, 'the first met': NULL, CAST, INDEX and no MEASURE of any CELL ahead of FULL");
        ClothForce x = filled(2, 55);
        C.due("FULL", x.scan(0, INTS, 54), FULL);
        C.due("NULL", x.scan(1, INTS, 0), NULL);
        C.due("CAST", x.scan(0, BYTES, 0), CAST);
        C.due("INDEX of the first", x.scan(0, INTS, -1), INDEX);
        C.due("INDEX of the last", x.scan(0, INTS, 55), INDEX);
        x.lay(0, 8, 251);
        C.due("no MEASURE of the first", x.scan(0, INTS, 8), -100);
        C.due("no MEASURE of the last", x.scan(0, INTS, 3), -105);
        C.due("FULL behind it", x.scan(0, INTS, 9), FULL);
        C.due("FULL ahead of it", x.scan(0, INTS, 2), FULL);
        C.due("BAD", x.scan(0, 3, 0), BAD);
        C.due("count(8)", x.count(8), 55);
    }

    private static void scanWithoutBodies() {
        C.test("promise 36, 'how many were told in all': no BODY, so that no CELL is looked at");
        ClothForce x = table(0, 0);
        for (int f : new int[] {0, -1, 1, 60, Integer.MIN_VALUE, Integer.MAX_VALUE}) {
            C.due("scan(0, 2, " + f + ")", x.scan(0, INTS, f), 0);
        }
        x.body(0, 0, 0);
        C.due("scan with a BODY", x.scan(0, INTS, 0), INDEX);
    }

    private static void scanOrder() {
        C.test("promise 36, 'chest, length, foot of BODY b of CELLS f + 3 b and on': all twelve, the last CELL");
        ClothForce x = table(12, 60);
        for (int i = 0; i < 60; i++) {
            x.lay(0, i, 2 * i + 1);
        }
        C.due("scan(0, 2, 24)", x.scan(0, INTS, 24), 36);
        for (int b = 0; b < 12; b++) {
            for (int what = 0; what < 3; what++) {
                C.due("told(" + b + ", 3 + " + what + ")", x.told(b, 3 + what), 2 * (24 + 3 * b + what) + 1);
            }
        }
        ClothForce y = table(1, 4);
        y.lay(0, 3, 9);
        C.due("scan(0, 2, 0)", y.scan(0, INTS, 0), 3);
        C.due("scan(0, 2, 1): all are told again", y.scan(0, INTS, 1), 6);
        C.due("told(0, 5)", y.told(0, 5), 9);
        C.due("known(0, 2, 0, 0)", y.known(0, 2, 0, 0), 9);
    }

    private static void scanFromTheDay() {
        C.test("promise 36, 'from THE DAY on': that day, the day ahead of it; told on that day");
        ClothForce x = table(1, 3);
        x.measure(0, 0, 5, 0);
        x.measure(0, 0, 6, 9);
        x.day(8);
        C.due("scan(0, 2, 0)", x.scan(0, INTS, 0), 5);
        C.due("known(0, 0, 8, 7)", x.known(0, 0, 8, 7), 5);
        C.due("known(0, 0, 8, 8)", x.known(0, 0, 8, 8), 7);
        C.due("known(0, 0, 7, 8)", x.known(0, 0, 7, 8), 5);
        C.due("known(0, 0, 8, 9)", x.known(0, 0, 8, 9), 6);
        x.day(9999);
        C.due("scan on the last day", x.scan(0, INTS, 0), 8);
        C.due("known(0, 0, 9999, 9998)", x.known(0, 0, 9999, 9998), 6);
        C.due("known(0, 0, 9999, 9999)", x.known(0, 0, 9999, 9999), 7);
    }

    // ---- promise 37

    private static void count() {
        countWhat();
        countNothingYet();
        countBodiesSizesStores();
        countPieces();
        countLines();
        countMeasures();
        countDay();
        countCharges();
        countBytes();
        countCells();
    }

    private static void countWhat() {
        C.test("promise 37, '0 BODIES .. 12 CELLS of SHEET 0': no other");
        B.outside("count(what)", Camp::some, 0, 12, (x, what) -> x.count(what));
        B.outside("count(what) of a new object", ClothForce::new, 0, 12, (x, what) -> x.count(what));
        int[] due = {3, 4, 3, 8, 5, 1, 2, 6, 8, 7, 80, 10, 12};
        for (int what = 0; what <= 12; what++) {
            int which = what;
            B.refused("count(" + what + ")", Camp::some, due[what], x -> x.count(which));
        }
    }

    private static void countNothingYet() {
        C.test("promise 37, 'How many': nothing yet");
        for (int what = 0; what <= 11; what++) {
            C.due("count(" + what + ")", new ClothForce().count(what), 0);
        }
        C.due("count(12)", new ClothForce().count(12), NONE);
    }

    private static void countBodiesSizesStores() {
        C.test("promise 37, '0 BODIES, 1 SIZES, 2 STORES': the last that there is room for, and a refused one");
        ClothForce x = Camp.fullOfBodies();
        C.due("count(0)", x.count(0), 12);
        x.body(0, 0, 0);
        C.due("count(0) behind the 13th", x.count(0), 12);
        ClothForce y = Camp.fullOfSizes();
        C.due("count(1)", y.count(1), 12);
        Checks.wideSize(y, 0);
        C.due("count(1) behind the 13th", y.count(1), 12);
        ClothForce z = Camp.fullOfStores();
        C.due("count(2)", z.count(2), 4);
        z.store();
        C.due("count(2) behind the 5th", z.count(2), 4);
    }

    private static void countPieces() {
        C.test("promise 37, '3 PIECES, 4 those in STORES, 5 with BODIES, 6 GONE': each step of all 36");
        ClothForce x = Camp.fullOfPieces();
        partsAre(x, 36, 33, 1, 2);
        x.piece(0, 0, 0, 0);
        partsAre(x, 36, 33, 1, 2);
        x.issue(6, 0);
        partsAre(x, 36, 32, 2, 2);
        x.lost(0);
        partsAre(x, 36, 32, 1, 3);
        x.fail(6);
        partsAre(x, 36, 32, 0, 4);
        x.fail(35);
        partsAre(x, 36, 31, 0, 5);
        x.fail(35);
        partsAre(x, 36, 31, 0, 5);
        x.move(34, 0);
        partsAre(x, 36, 31, 0, 5);
    }

    private static void partsAre(ClothForce x, int... due) {
        for (int i = 0; i < due.length; i++) {
            C.due("count(" + (3 + i) + ")", x.count(3 + i), due[i]);
        }
    }

    private static void countLines() {
        C.test("promise 37, '7 lines': none yet, one, twelve, those that stay by a FAULT");
        ClothForce x = new ClothForce();
        for (int lines = 0; lines <= 12; lines++) {
            Checks.read(x, "issue 0 1;".repeat(lines));
            C.due("count(7)", x.count(7), lines);
        }
        Checks.read(x, "issue 0 1;".repeat(13));
        C.due("count(7) behind a FAULT", x.count(7), 12);
        x.text();
        C.due("count(7) behind an empty text", x.count(7), 0);
    }

    private static void countMeasures() {
        C.test("promise 37, '8 MEASURES told': the 60th, the 61st; those of a SHEET too");
        ClothForce x = Camp.fullOfMeasures();
        C.due("count(8)", x.count(8), 60);
        x.measure(0, 0, 1, 0);
        C.due("count(8) behind the 61st", x.count(8), 60);
        ClothForce y = Camp.some();
        y.scan(0, SHORTS, 0);
        C.due("count(8) behind a scan", y.count(8), Camp.MEASURES + 9);
        y.scan(0, SHORTS, 9);
        C.due("count(8) behind a refused scan", y.count(8), Camp.MEASURES + 9);
    }

    private static void countDay() {
        C.test("promise 37, '9 THE DAY': the first, the last, behind a refused one");
        ClothForce x = new ClothForce();
        C.due("count(9)", x.count(9), 0);
        x.day(9998);
        x.day(9997);
        C.due("count(9)", x.count(9), 9998);
        x.day(9999);
        x.day(10000);
        C.due("count(9)", x.count(9), 9999);
    }

    private static void countCharges() {
        C.test("promise 37, '10 CHARGES, summed': none yet, of one BODY, of all");
        ClothForce x = new ClothForce();
        x.store();
        Checks.wideSize(x, 0);
        Checks.read(x, "issue 0 9;price 0 9999;life 0 9999;");
        for (int p = 0; p < 36; p++) {
            x.piece(0, 0, 0, 0);
        }
        for (int b = 0; b < 12; b++) {
            x.body(0, 0, 0);
            for (int p = 3 * b; p < 3 * b + 3; p++) {
                C.due("count(10)", x.count(10), 9999 * p);
                x.issue(p, b);
                x.lost(p);
            }
            C.due("told(b, 7)", x.told(b, 7), 3 * 9999);
        }
        C.due("count(10)", x.count(10), 36 * 9999);
    }

    private static void countBytes() {
        C.test("promise 37, '11 bytes on THE TAPE': none, 240, behind a refused feed, an end, a text");
        ClothForce x = Camp.fullTape();
        C.due("count(11)", x.count(11), 240);
        x.feed(0);
        C.due("count(11) behind a refused feed", x.count(11), 240);
        x.end(239);
        C.due("count(11) behind an end", x.count(11), 239);
        x.text();
        C.due("count(11) behind a text", x.count(11), 0);
    }

    private static void countCells() {
        C.test("promise 37, '12 CELLS of SHEET 0 (NONE: nothing)': nothing yet, no CELL, 60; of no other SHEET");
        ClothForce x = new ClothForce();
        for (int k = 1; k < 4; k++) {
            x.sheet(k, BYTES, 9);
            C.due("count(12), nothing", x.count(12), NONE);
        }
        x.sheet(0, BYTES, 0);
        C.due("count(12), no CELL", x.count(12), 0);
        x.sheet(0, INTS, 60);
        C.due("count(12)", x.count(12), 60);
        x.sheet(0, INTS, 61);
        x.sheet(0, INTS, -1);
        C.due("count(12) behind refused ones", x.count(12), 60);
    }
}
