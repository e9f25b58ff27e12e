/** Counts the tests of one program, and prints every call whose answer is not the one that is due. */
final class Checks {
    private int passed;
    private int failed;
    private String test = "";
    private boolean good = true;

    void test(String name) {
        close();
        test = name;
        good = true;
    }

    void due(String call, long got, long want) {
        if (got != want) {
            good = false;
            System.out.println(test + ": " + call + " answered " + got + ", due is " + want);
        }
    }

    void finish() {
        close();
        System.out.println("told " + passed + " " + failed);
        if (failed > 0) {
            System.exit(1);
        }
    }

    /** THE TAPE holds these signs behind what it had. */
    static void type(ClothForce x, String signs) {
        int before = x.count(11);
        for (int at = 0; at < signs.length(); at += 8) {
            long v = 0;
            for (int i = at; i < at + 8; i++) {
                v = v << 8 | (i < signs.length() ? signs.charAt(i) & 255 : ' ');
            }
            x.feed(v);
        }
        x.end(before + signs.length());
    }

    static int read(ClothForce x, String signs) {
        type(x, signs);
        return x.text();
    }

    /** All three MEASURES of a BODY, from day 0 on. */
    static void measured(ClothForce x, int b, int chest, int length, int foot) {
        x.measure(b, 0, chest, 0);
        x.measure(b, 1, length, 0);
        x.measure(b, 2, foot, 0);
    }

    /** A SIZE of a KIND that FITS every BODY. */
    static int wideSize(ClothForce x, int kind) {
        return x.size(kind, 0, 250, 0, 250, 0, 250);
    }

    private void close() {
        if (test.isEmpty()) {
            return;
        }
        if (good) {
            passed++;
        } else {
            failed++;
        }
        test = "";
    }
}
