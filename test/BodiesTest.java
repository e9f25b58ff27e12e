/** Promises 1 to 11: the day, bodies, measures, sizes. */
public final class BodiesTest {
    private static final int BAD = -1, STATE = -2, FULL = -3, NONE = -4;
    private static final Checks C = new Checks();

    public static void main(String[] args) {
        newObject();
        day();
        body();
        becomes();
        measure();
        measureUntilFull();
        known();
        knownTie();
        told();
        size();
        sizeBounds();
        fits();
        sized();
        chosen();
        chosenTies();
        chosenState();
        C.finish();
    }

    private static void newObject() {
        C.test("promise 1: a new object");
        ClothForce x = new ClothForce();
        for (int what = 0; what <= 11; what++) {
            C.due("count(" + what + ")", x.count(what), 0);
        }
        C.due("count(12)", x.count(12), NONE);
        C.due("fault()", x.fault(), 0);
        C.due("worst()", x.worst(), NONE);
        C.due("told(0, 0)", x.told(0, 0), BAD);
        for (int k = 0; k < 4; k++) {
            C.due("lay(" + k + ", 0, 0)", x.lay(k, 0, 0), -11);
        }
    }

    private static void day() {
        C.test("promise 2: day");
        ClothForce x = new ClothForce();
        C.due("day(-1)", x.day(-1), BAD);
        C.due("day(0)", x.day(0), 0);
        C.due("day(7)", x.day(7), 0);
        C.due("day(6)", x.day(6), BAD);
        C.due("day(7)", x.day(7), 7);
        C.due("day(10000)", x.day(10000), BAD);
        C.due("day(9999)", x.day(9999), 7);
        C.due("day(9998)", x.day(9998), BAD);
        C.due("count(9)", x.count(9), 9999);
        C.due("day(min)", x.day(Integer.MIN_VALUE), BAD);
    }

    private static void body() {
        C.test("promise 3: body");
        ClothForce x = new ClothForce();
        C.due("body(6, 0, 0)", x.body(6, 0, 0), BAD);
        C.due("body(-1, 0, 0)", x.body(-1, 0, 0), BAD);
        C.due("body(0, 4, 0)", x.body(0, 4, 0), BAD);
        C.due("body(0, -1, 0)", x.body(0, -1, 0), BAD);
        C.due("body(0, 0, 3)", x.body(0, 0, 3), BAD);
        C.due("body(0, 0, -1)", x.body(0, 0, -1), BAD);
        C.due("count(0)", x.count(0), 0);
        for (int b = 0; b < 12; b++) {
            C.due("body", x.body(5, 3, 2), b);
        }
        C.due("the 13th body", x.body(0, 0, 0), FULL);
        C.due("a wrong 13th body", x.body(6, 0, 0), BAD);
        C.due("count(0)", x.count(0), 12);
    }

    private static void becomes() {
        C.test("promise 4: becomes");
        ClothForce x = new ClothForce();
        C.due("becomes(0, 0, 0)", x.becomes(0, 0, 0), BAD);
        x.body(1, 2, 0);
        C.due("becomes(0, 0, 5)", x.becomes(0, 0, 5), 1);
        C.due("becomes(0, 0, 6)", x.becomes(0, 0, 6), BAD);
        C.due("becomes(0, 1, 3)", x.becomes(0, 1, 3), 2);
        C.due("becomes(0, 1, 4)", x.becomes(0, 1, 4), BAD);
        C.due("becomes(0, 2, 2)", x.becomes(0, 2, 2), 0);
        C.due("becomes(0, 2, 3)", x.becomes(0, 2, 3), BAD);
        C.due("becomes(0, 2, -1)", x.becomes(0, 2, -1), BAD);
        C.due("becomes(0, 3, 0)", x.becomes(0, 3, 0), BAD);
        C.due("becomes(0, -1, 0)", x.becomes(0, -1, 0), BAD);
        C.due("becomes(1, 0, 0)", x.becomes(1, 0, 0), BAD);
        C.due("becomes(-1, 0, 0)", x.becomes(-1, 0, 0), BAD);
        C.due("told(0, 0)", x.told(0, 0), 5);
        C.due("told(0, 1)", x.told(0, 1), 3);
        C.due("told(0, 2)", x.told(0, 2), 2);
    }

    private static void measure() {
        C.test("promise 5: measure");
        ClothForce x = new ClothForce();
        C.due("measure(0, 0, 1, 0)", x.measure(0, 0, 1, 0), BAD);
        x.body(0, 0, 0);
        C.due("measure(0, 0, 250, 9999)", x.measure(0, 0, 250, 9999), 1);
        C.due("measure(0, 2, 0, 0)", x.measure(0, 2, 0, 0), 2);
        C.due("measure(0, 0, 251, 0)", x.measure(0, 0, 251, 0), BAD);
        C.due("measure(0, 0, -1, 0)", x.measure(0, 0, -1, 0), BAD);
        C.due("measure(0, 3, 1, 0)", x.measure(0, 3, 1, 0), BAD);
        C.due("measure(0, -1, 1, 0)", x.measure(0, -1, 1, 0), BAD);
        C.due("measure(0, 0, 1, -1)", x.measure(0, 0, 1, -1), BAD);
        C.due("measure(0, 0, 1, 10000)", x.measure(0, 0, 1, 10000), BAD);
        C.due("measure(1, 0, 1, 0)", x.measure(1, 0, 1, 0), BAD);
        C.due("count(8)", x.count(8), 2);
    }

    private static void measureUntilFull() {
        C.test("promise 5: measure, the 60th and the 61st");
        ClothForce x = new ClothForce();
        x.body(0, 0, 0);
        for (int i = 1; i <= 60; i++) {
            C.due("measure", x.measure(0, i % 3, i, i), i);
        }
        C.due("the 61st", x.measure(0, 0, 7, 0), FULL);
        C.due("a wrong 61st", x.measure(0, 0, 251, 0), BAD);
        C.due("known(0, 0, 0, 9999)", x.known(0, 0, 0, 9999), 60);
        C.due("known(0, 1, 0, 9999)", x.known(0, 1, 0, 9999), 58);
        C.due("known(0, 2, 0, 4)", x.known(0, 2, 0, 4), 2);
    }

    private static void known() {
        C.test("promise 6: known");
        ClothForce x = new ClothForce();
        x.body(0, 0, 0);
        x.body(0, 0, 0);
        C.due("known(0, 0, 0, 0)", x.known(0, 0, 0, 0), 0);
        x.measure(0, 0, 90, 10);
        x.day(5);
        x.measure(0, 0, 95, 3);
        x.measure(0, 1, 170, 0);
        C.due("known(0, 0, 4, 9)", x.known(0, 0, 4, 9), 0);
        C.due("known(0, 0, 4, 10)", x.known(0, 0, 4, 10), 90);
        C.due("known(0, 0, 5, 2)", x.known(0, 0, 5, 2), 0);
        C.due("known(0, 0, 5, 3)", x.known(0, 0, 5, 3), 95);
        C.due("known(0, 0, 5, 9)", x.known(0, 0, 5, 9), 95);
        C.due("known(0, 0, 9999, 9999)", x.known(0, 0, 9999, 9999), 90);
        C.due("known(0, 1, 4, 9)", x.known(0, 1, 4, 9), 0);
        C.due("known(0, 1, 5, 0)", x.known(0, 1, 5, 0), 170);
        C.due("known(1, 0, 5, 9)", x.known(1, 0, 5, 9), 0);
        C.due("known(0, 2, 5, 9)", x.known(0, 2, 5, 9), 0);
        C.due("known(2, 0, 0, 0)", x.known(2, 0, 0, 0), BAD);
        C.due("known(-1, 0, 0, 0)", x.known(-1, 0, 0, 0), BAD);
        C.due("known(0, 3, 0, 0)", x.known(0, 3, 0, 0), BAD);
        C.due("known(0, -1, 0, 0)", x.known(0, -1, 0, 0), BAD);
        C.due("known(0, 0, -1, 0)", x.known(0, 0, -1, 0), BAD);
        C.due("known(0, 0, 10000, 0)", x.known(0, 0, 10000, 0), BAD);
        C.due("known(0, 0, 0, -1)", x.known(0, 0, 0, -1), BAD);
        C.due("known(0, 0, 0, 10000)", x.known(0, 0, 0, 10000), BAD);
    }

    private static void knownTie() {
        C.test("promise 6: known, of one day the one told last");
        ClothForce x = new ClothForce();
        x.body(0, 0, 0);
        x.measure(0, 2, 30, 4);
        x.measure(0, 2, 31, 4);
        x.day(2);
        x.measure(0, 2, 32, 4);
        x.measure(0, 2, 29, 1);
        C.due("known(0, 2, 0, 4)", x.known(0, 2, 0, 4), 31);
        C.due("known(0, 2, 1, 9)", x.known(0, 2, 1, 9), 31);
        C.due("known(0, 2, 2, 4)", x.known(0, 2, 2, 4), 32);
        C.due("known(0, 2, 2, 3)", x.known(0, 2, 2, 3), 29);
        C.due("told(0, 5)", x.told(0, 5), 29);
        x.day(4);
        C.due("told(0, 5)", x.told(0, 5), 32);
    }

    private static void told() {
        C.test("promise 7: told");
        ClothForce x = new ClothForce();
        x.body(4, 3, 1);
        Checks.measured(x, 0, 100, 180, 28);
        Checks.read(x, "issue 2 3; life 2 10; price 2 50;");
        int s = Checks.wideSize(x, 2);
        x.store();
        x.piece(0, s, 0, 0);
        x.piece(0, s, 0, 0);
        x.issue(0, 0);
        x.day(4);
        x.issue(1, 0);
        int[] due = {4, 3, 1, 100, 180, 28, 2, 0};
        for (int what = 0; what < due.length; what++) {
            C.due("told(0, " + what + ")", x.told(0, what), due[what]);
        }
        C.due("told(0, 12)", x.told(0, 12), 2);
        C.due("told(0, 10)", x.told(0, 10), 0);
        C.due("told(0, 13)", x.told(0, 13), 0);
        C.due("told(0, 22)", x.told(0, 22), 3);
        C.due("told(0, 23)", x.told(0, 23), 0);
        x.day(10);
        C.due("told(0, 12), one worn out", x.told(0, 12), 1);
        C.due("told(0, 6), one worn out", x.told(0, 6), 2);
        x.lost(1);
        C.due("told(0, 7)", x.told(0, 7), 20);
        C.due("told(0, 6)", x.told(0, 6), 1);
        int[] wrong = {-1, 8, 9, 14, 19, 24, Integer.MIN_VALUE, Integer.MAX_VALUE};
        for (int what : wrong) {
            C.due("told(0, " + what + ")", x.told(0, what), BAD);
        }
        C.due("told(1, 0)", x.told(1, 0), BAD);
        C.due("told(-1, 0)", x.told(-1, 0), BAD);
    }

    private static void size() {
        C.test("promise 8: size");
        ClothForce x = new ClothForce();
        for (int s = 0; s < 12; s++) {
            C.due("size", x.size(s % 4, 0, 250, 5, 5, 0, 0), s);
        }
        C.due("the 13th", x.size(0, 0, 1, 0, 1, 0, 1), FULL);
        C.due("a wrong 13th", x.size(4, 0, 1, 0, 1, 0, 1), BAD);
        C.due("count(1)", x.count(1), 12);
    }

    private static void sizeBounds() {
        C.test("promise 8: size, wrong numbers");
        ClothForce x = new ClothForce();
        C.due("kind 4", x.size(4, 0, 1, 0, 1, 0, 1), BAD);
        C.due("kind -1", x.size(-1, 0, 1, 0, 1, 0, 1), BAD);
        C.due("chest turned", x.size(0, 2, 1, 0, 1, 0, 1), BAD);
        C.due("length turned", x.size(0, 0, 1, 2, 1, 0, 1), BAD);
        C.due("foot turned", x.size(0, 0, 1, 0, 1, 2, 1), BAD);
        C.due("chest below 0", x.size(0, -1, 1, 0, 1, 0, 1), BAD);
        C.due("length above 250", x.size(0, 0, 1, 0, 251, 0, 1), BAD);
        C.due("foot above 250", x.size(0, 0, 1, 0, 1, 251, 251), BAD);
        C.due("count(1)", x.count(1), 0);
    }

    private static void fits() {
        C.test("promise 9: fits");
        ClothForce x = new ClothForce();
        x.body(0, 0, 0);
        Checks.measured(x, 0, 100, 180, 28);
        x.size(0, 90, 100, 180, 190, 20, 30);
        x.size(0, 90, 97, 182, 190, 20, 27);
        x.size(0, 151, 160, 180, 180, 28, 28);
        C.due("fits(0, 0, 0)", x.fits(0, 0, 0), 1);
        C.due("fits(1, 0, 2)", x.fits(1, 0, 2), 0);
        C.due("fits(1, 0, 3)", x.fits(1, 0, 3), 1);
        C.due("fits(2, 0, 50)", x.fits(2, 0, 50), 0);
        x.measure(0, 0, 101, 0);
        C.due("fits(2, 0, 50)", x.fits(2, 0, 50), 1);
        C.due("fits(2, 0, 49)", x.fits(2, 0, 49), 0);
        C.due("fits(0, 0, 0)", x.fits(0, 0, 0), 0);
        C.due("fits(0, 0, -1)", x.fits(0, 0, -1), BAD);
        C.due("fits(0, 0, 51)", x.fits(0, 0, 51), BAD);
        C.due("fits(3, 0, 0)", x.fits(3, 0, 0), BAD);
        C.due("fits(-1, 0, 0)", x.fits(-1, 0, 0), BAD);
        C.due("fits(0, 1, 0)", x.fits(0, 1, 0), BAD);
        C.due("fits(0, -1, 0)", x.fits(0, -1, 0), BAD);
    }

    private static void sized() {
        C.test("promise 10: sized");
        ClothForce x = new ClothForce();
        x.body(0, 0, 0);
        Checks.measured(x, 0, 100, 100, 100);
        x.size(1, 0, 0, 0, 0, 0, 0);
        x.size(0, 0, 96, 0, 250, 0, 250);
        x.size(1, 0, 98, 0, 250, 0, 250);
        x.size(1, 0, 97, 0, 250, 0, 250);
        C.due("sized(0, 1, 1, 0)", x.sized(0, 1, 1, 0), 0);
        C.due("sized(0, 1, 1, 1)", x.sized(0, 1, 1, 1), NONE);
        C.due("sized(0, 1, 2, 0)", x.sized(0, 1, 2, 0), 1);
        C.due("sized(0, 1, 3, 0)", x.sized(0, 1, 3, 0), 2);
        C.due("sized(0, 1, 3, 1)", x.sized(0, 1, 3, 1), 2);
        C.due("sized(0, 1, 0, 2)", x.sized(0, 1, 0, 2), 2);
        C.due("sized(0, 1, 51, 2): e is not looked at", x.sized(0, 1, 51, 2), 2);
        C.due("sized(0, 1, -1, 2): e is not looked at", x.sized(0, 1, -1, 2), 2);
        C.due("sized(0, 0, 0, 2)", x.sized(0, 0, 0, 2), 4);
        C.due("sized(0, 2, 0, 2)", x.sized(0, 2, 0, 2), NONE);
        x.size(2, 151, 151, 0, 250, 0, 250);
        C.due("sized(0, 2, 0, 2)", x.sized(0, 2, 0, 2), NONE);
        x.size(2, 150, 150, 0, 250, 0, 250);
        C.due("sized(0, 2, 0, 2)", x.sized(0, 2, 0, 2), 50);
        C.due("sized(0, 2, 50, 1)", x.sized(0, 2, 50, 1), 5);
        C.due("sized(0, 1, 51, 0)", x.sized(0, 1, 51, 0), BAD);
        C.due("sized(0, 1, -1, 1)", x.sized(0, 1, -1, 1), BAD);
        C.due("sized(0, 4, 0, 0)", x.sized(0, 4, 0, 0), BAD);
        C.due("sized(0, -1, 0, 0)", x.sized(0, -1, 0, 0), BAD);
        C.due("sized(1, 0, 0, 0)", x.sized(1, 0, 0, 0), BAD);
        C.due("sized(0, 0, 0, 3)", x.sized(0, 0, 0, 3), BAD);
        C.due("sized(0, 0, 0, -1)", x.sized(0, 0, 0, -1), BAD);
    }

    /** BODIES 0 to 3 with chests 10, 20, 30, 40. */
    private static ClothForce fourBodies() {
        ClothForce x = new ClothForce();
        for (int b = 0; b < 4; b++) {
            x.body(0, 0, 0);
            x.measure(b, 0, 10 * (b + 1), 0);
        }
        return x;
    }

    private static void chosen() {
        C.test("promise 11: chosen");
        ClothForce x = fourBodies();
        C.due("chosen(0, 3, 2), no sizes", x.chosen(0, 3, 2), 15);
        x.size(0, 10, 20, 0, 0, 0, 0);
        x.size(0, 20, 35, 0, 0, 0, 0);
        x.size(1, 0, 250, 0, 0, 0, 0);
        x.size(0, 31, 50, 0, 0, 0, 0);
        C.due("chosen(0, 0, 0)", x.chosen(0, 0, 0), 0);
        C.due("chosen(0, 0, 1)", x.chosen(0, 0, 1), 0);
        C.due("chosen(0, 0, 2)", x.chosen(0, 0, 2), 15);
        C.due("chosen(0, 1, 0)", x.chosen(0, 1, 0), 2);
        C.due("chosen(0, 1, 1)", x.chosen(0, 1, 1), 1);
        C.due("chosen(0, 1, 2)", x.chosen(0, 1, 2), 12);
        C.due("chosen(0, 2, 0)", x.chosen(0, 2, 0), 3);
        C.due("chosen(0, 2, 1)", x.chosen(0, 2, 1), 3);
        C.due("chosen(0, 2, 2)", x.chosen(0, 2, 2), 8);
        C.due("chosen(0, 3, 0)", x.chosen(0, 3, 0), 4);
        C.due("chosen(0, 3, 1)", x.chosen(0, 3, 1), 11);
        C.due("chosen(0, 10, 2)", x.chosen(0, 10, 2), 0);
        C.due("chosen(1, 10, 1)", x.chosen(1, 10, 1), 4);
        C.due("chosen(0, 11, 0)", x.chosen(0, 11, 0), BAD);
        C.due("chosen(0, -1, 0)", x.chosen(0, -1, 0), BAD);
        C.due("chosen(4, 1, 0)", x.chosen(4, 1, 0), BAD);
        C.due("chosen(-1, 1, 0)", x.chosen(-1, 1, 0), BAD);
        C.due("chosen(0, 1, 3)", x.chosen(0, 1, 3), BAD);
        C.due("chosen(0, 1, -1)", x.chosen(0, 1, -1), BAD);
    }

    private static void chosenTies() {
        C.test("promise 11: chosen, the fewest sizes, then the least sum");
        ClothForce x = fourBodies();
        x.size(0, 10, 10, 0, 0, 0, 0);
        x.size(0, 20, 20, 0, 0, 0, 0);
        x.size(0, 30, 40, 0, 0, 0, 0);
        x.size(0, 10, 20, 0, 0, 0, 0);
        x.size(0, 30, 40, 0, 0, 0, 0);
        C.due("chosen(0, 1, 1)", x.chosen(0, 1, 1), 4);
        C.due("chosen(0, 2, 1)", x.chosen(0, 2, 1), 12);
        C.due("chosen(0, 5, 1)", x.chosen(0, 5, 1), 12);
        C.due("chosen(0, 5, 0)", x.chosen(0, 5, 0), 4);
    }

    private static void chosenState() {
        C.test("promise 11: chosen, ten sizes and eleven");
        ClothForce x = fourBodies();
        for (int s = 0; s < 10; s++) {
            x.size(3, 10 * s, 10 * s, 0, 0, 0, 0);
        }
        C.due("chosen(3, 4, 1)", x.chosen(3, 4, 1), 30);
        C.due("chosen(3, 3, 1)", x.chosen(3, 3, 1), 14);
        x.size(3, 0, 250, 0, 0, 0, 0);
        C.due("chosen(3, 4, 1)", x.chosen(3, 4, 1), STATE);
        C.due("chosen(3, 0, 0)", x.chosen(3, 0, 0), STATE);
        C.due("chosen(3, 11, 1)", x.chosen(3, 11, 1), BAD);
        C.due("chosen(0, 4, 1)", x.chosen(0, 4, 1), 0);
    }
}
