/** Objects that hold something of everything, so that a change anywhere can be seen. */
final class Camp {
    static final int BODIES = 3;
    static final int SIZES = 4;
    static final int STORES = 3;
    static final int PIECES = 8;
    static final int MEASURES = 8;
    static final int DAY = 7;
    static final int BYTES = 10;
    static final int LINES = 6;

    private Camp() {
    }

    /**
     * PIECE 0 is with BODY 0, 1 came back, 3 FAILED, 4 was lost by BODY 1, all others never left a STORE. The latest
     * text had FAULT 3; SHEET 0 holds SHORTS, 1 INTS, 2 no CELLS, 3 nothing.
     */
    static ClothForce some() {
        ClothForce x = new ClothForce();
        people(x);
        Checks.read(x, "issue 0 3;issue 1 2 if rank>1;from 5 issue 0 4 if duty=3;life 0 10;price 0 100;from 9 life 0 12;");
        goods(x);
        way(x);
        sheets(x);
        Checks.read(x, "life 0 0;");
        Checks.type(x, "price 1 7;");
        return x;
    }

    private static void people(ClothForce x) {
        x.body(2, 1, 0);
        x.body(5, 3, 2);
        x.body(0, 0, 1);
        Checks.measured(x, 0, 100, 180, 28);
        Checks.measured(x, 1, 90, 170, 26);
        x.measure(0, 0, 104, 6);
        Checks.wideSize(x, 0);
        x.size(0, 95, 105, 170, 190, 20, 30);
        x.size(1, 85, 95, 165, 175, 25, 27);
        Checks.wideSize(x, 2);
    }

    private static void goods(ClothForce x) {
        x.store();
        x.store();
        x.store();
        x.road(0, 1, 10);
        x.road(1, 2, 30);
        x.piece(0, 0, 0, 10);
        x.piece(0, 1, 1, 12);
        x.piece(0, 2, 1, 14);
        x.piece(1, 0, 2, 16);
        x.piece(1, 0, 2, 16);
        x.piece(2, 0, 3, 18);
        x.piece(0, 0, 0, 40);
        x.piece(2, 3, 4, 99);
    }

    private static void way(ClothForce x) {
        x.day(3);
        x.measure(2, 1, 100, 1);
        x.issue(0, 0);
        x.issue(1, 0);
        x.issue(4, 1);
        x.fail(3);
        x.day(5);
        x.back(1, 1);
        x.lost(4);
        x.day(DAY);
    }

    private static void sheets(ClothForce x) {
        x.sheet(0, 1, 12);
        for (int i = 0; i < 12; i++) {
            x.lay(0, i, i + 1);
        }
        x.sheet(1, 2, 6);
        for (int i = 0; i < 6; i++) {
            x.lay(1, i, i < 5 ? 7 : 300);
        }
        x.sheet(2, 0, 0);
    }

    static ClothForce fullOfBodies() {
        ClothForce x = some();
        for (int b = BODIES; b < 12; b++) {
            x.body(b % 6, b % 4, b % 3);
        }
        return x;
    }

    static ClothForce fullOfMeasures() {
        ClothForce x = some();
        for (int i = MEASURES; i < 60; i++) {
            x.measure(i % 3, i / 3 % 3, i, i % 9);
        }
        return x;
    }

    static ClothForce fullOfSizes() {
        ClothForce x = some();
        for (int s = SIZES; s < 12; s++) {
            x.size(s % 4, 8 * s, 8 * s + 9, 0, 250, 0, 250);
        }
        return x;
    }

    static ClothForce fullOfStores() {
        ClothForce x = some();
        x.store();
        return x;
    }

    static ClothForce fullOfPieces() {
        ClothForce x = some();
        for (int p = PIECES; p < 36; p++) {
            x.piece(p % 3, p % 4, p % 6, 2 * p);
        }
        return x;
    }

    /** THE TAPE holds 240 bytes: a line, and blanks behind it. */
    static ClothForce fullTape() {
        ClothForce x = some();
        x.end(8);
        for (int i = 1; i < 30; i++) {
            x.feed(i == 1 ? 0x373B202020202020L : 0x2020202020202020L);
        }
        return x;
    }
}
