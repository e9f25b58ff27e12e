/** Promises 12 to 18: the tape, its text, what is due. */
public final class RegulationsTest {
    private static final int BAD = -1, FULL = -3, NONE = -4;
    private static final Checks C = new Checks();

    public static void main(String[] args) {
        feed();
        feedOrder();
        end();
        textReads();
        textBlanks();
        textKeepsOnFault();
        textEmptiesTape();
        fault();
        faultNoToken();
        faultMisplaced();
        faultEnd();
        faultBounds();
        faultTooMany();
        faultTwice();
        faultOrder();
        due();
        dueTests();
        why();
        rule();
        C.finish();
    }

    private static void feed() {
        C.test("promise 12: feed");
        ClothForce x = new ClothForce();
        for (int i = 1; i <= 30; i++) {
            C.due("feed", x.feed(-1L), 8 * i);
        }
        C.due("the 241st byte", x.feed(0), FULL);
        C.due("end(233)", x.end(233), 240);
        C.due("feed behind 233", x.feed(0), FULL);
        C.due("end(232)", x.end(232), 233);
        C.due("feed behind 232", x.feed(0), 240);
        C.due("count(11)", x.count(11), 240);
    }

    private static void feedOrder() {
        C.test("promise 12: feed, the highest byte first");
        ClothForce x = new ClothForce();
        // "life 0 1" and ";" behind it; a turned order would be no text.
        x.feed(0x6C69666520302031L);
        x.feed(0x3B20202020202020L);
        C.due("text()", x.text(), 1);
        C.due("rule(0, 0, 0)", x.rule(0, 0, 0), 1);
    }

    private static void end() {
        C.test("promise 13: end");
        ClothForce x = new ClothForce();
        C.due("end(1)", x.end(1), BAD);
        C.due("end(0)", x.end(0), 0);
        x.feed(0);
        C.due("end(9)", x.end(9), BAD);
        C.due("end(-1)", x.end(-1), BAD);
        C.due("end(8)", x.end(8), 8);
        C.due("end(3)", x.end(3), 8);
        C.due("end(4)", x.end(4), BAD);
        C.due("count(11)", x.count(11), 3);
        Checks.type(x, "");
        x.end(0);
        Checks.type(x, "price 1 7;price 2 8;");
        x.end(10);
        C.due("text()", x.text(), 1);
        C.due("rule(2, 1, 0)", x.rule(2, 1, 0), 100);
    }

    private static void reads(String signs, int lines) {
        ClothForce x = new ClothForce();
        C.due("text() of '" + signs + "'", Checks.read(x, signs), lines);
        C.due("fault() of '" + signs + "'", x.fault(), 0);
        C.due("count(7) of '" + signs + "'", x.count(7), lines);
    }

    private static void refuses(String signs, int fault, int place) {
        ClothForce x = new ClothForce();
        C.due("text() of '" + signs + "'", Checks.read(x, signs), -10 - place);
        C.due("fault() of '" + signs + "'", x.fault(), fault);
        C.due("count(7) of '" + signs + "'", x.count(7), 0);
        C.due("count(11) of '" + signs + "'", x.count(11), 0);
    }

    private static void textReads() {
        C.test("promise 14: text");
        reads("", 0);
        reads("issue 0 0;", 1);
        reads("issue 3 9;", 1);
        reads("issue 0 1 if rank<0;", 1);
        reads("issue 0 1 if rank<9 and duty=0 and climate>1;", 1);
        reads("life 0 1;life 1 9999;price 0 0;price 3 9999;", 4);
        reads("from 0 life 0 1;from 9999 life 0 2;from 1 price 0 3;from 7 issue 0 1;", 4);
        reads("issue 0003 0009;from 0001 life 0 0001;", 2);
        reads("life 0 5;price 0 5;life 1 5;from 1 life 0 5;issue 0 5;issue 0 5;", 6);
        StringBuilder twelve = new StringBuilder();
        for (int i = 0; i < 12; i++) {
            twelve.append("issue 0 1;");
        }
        reads(twelve.toString(), 12);
    }

    private static void textBlanks() {
        C.test("promise 14: text, blanks");
        reads("issue0 0;", 1);
        reads("issue0 0if rank<1and duty=2;", 1);
        reads("   from  3   life 0   9  ;  ", 1);
        reads("     ", 0);
        reads("issue 0 1 if rank < 1 and duty > 0 ; price 0 1 ;", 2);
        refuses("issue 00;", 2, 8);
        refuses("issue0 1ifrank<1;", 1, 8);
        refuses("issue 0\t1;", 1, 7);
    }

    private static void textKeepsOnFault() {
        C.test("promise 14: text, in place of what was told, not by a fault");
        ClothForce x = new ClothForce();
        x.body(0, 0, 0);
        C.due("text()", Checks.read(x, "issue 0 3;life 0 9;"), 2);
        C.due("text()", Checks.read(x, "issue 0 4;life 0"), -26);
        C.due("count(7)", x.count(7), 2);
        C.due("due(0, 0, 0)", x.due(0, 0, 0), 3);
        C.due("rule(0, 0, 0)", x.rule(0, 0, 0), 9);
        C.due("text()", Checks.read(x, "price 0 5;"), 1);
        C.due("due(0, 0, 0)", x.due(0, 0, 0), 0);
        C.due("rule(0, 0, 0)", x.rule(0, 0, 0), 365);
        C.due("rule(0, 1, 0)", x.rule(0, 1, 0), 5);
        C.due("text() of nothing", x.text(), 0);
        C.due("rule(0, 1, 0)", x.rule(0, 1, 0), 100);
        C.due("text()", Checks.read(x, "life 0 7;"), 1);
        C.due("rule(0, 0, 0)", x.rule(0, 0, 0), 7);
    }

    private static void textEmptiesTape() {
        C.test("promise 14: text, the tape is empty then");
        ClothForce x = new ClothForce();
        Checks.read(x, "life 0 7;");
        C.due("count(11)", x.count(11), 0);
        Checks.read(x, "life 0 7");
        C.due("count(11)", x.count(11), 0);
        C.due("feed", x.feed(0), 8);
    }

    private static void fault() {
        C.test("promise 15: fault");
        ClothForce x = new ClothForce();
        C.due("fault()", x.fault(), 0);
        Checks.read(x, "life 0 0;");
        C.due("fault()", x.fault(), 3);
        C.due("fault() again", x.fault(), 3);
        Checks.read(x, "wear");
        C.due("fault()", x.fault(), 1);
        Checks.read(x, "life 0 1;");
        C.due("fault()", x.fault(), 0);
    }

    private static void faultNoToken() {
        C.test("promise 15: fault 1, no token");
        refuses("wear 0 1;", 1, 0);
        refuses("Issue 0 1;", 1, 0);
        refuses("issue 0 1. ", 1, 9);
        refuses("issue 0 1;\n", 1, 10);
        refuses("issues 0 1;", 1, 0);
        refuses("lifez 0 1;", 1, 0);
        refuses("alife 0 1;", 1, 0);
        refuses("life{ 0 1;", 1, 4);
        refuses("life` 0 1;", 1, 4);
        refuses("life 0 1:", 1, 8);
        refuses("life 0/1;", 1, 6);
        refuses("issu 0 1;", 1, 0);
        refuses("  climates", 1, 2);
        refuses("life 0 10000;", 1, 7);
        refuses("life 0 00001;", 1, 7);
        refuses("life 0 123456789012345678901234567890;", 1, 7);
        refuses("life -1 2;", 1, 5);
        refuses("issue 0 1 if rank!1;", 1, 17);
        refuses("issue 0 1 if " + (char) 200 + ";", 1, 13);
        refuses("" + (char) 0, 1, 0);
        refuses("issue 0 1 if rankrankrankrankrank<1;", 1, 13);
    }

    private static void faultMisplaced() {
        C.test("promise 15: fault 2, misplaced");
        refuses(";", 2, 0);
        refuses("5", 2, 0);
        refuses("if", 2, 0);
        refuses("rank", 2, 0);
        refuses("from from", 2, 5);
        refuses("from 1 from 2 life 0 1;", 2, 7);
        refuses("from 1 ; ", 2, 7);
        refuses("issue ;", 2, 6);
        refuses("issue 0 ;", 2, 8);
        refuses("issue 0 1 1;", 2, 10);
        refuses("issue 0 1 and rank<1;", 2, 10);
        refuses("issue 0 1 if and;", 2, 13);
        refuses("issue 0 1 if rank 1;", 2, 18);
        refuses("issue 0 1 if rank<<1;", 2, 18);
        refuses("issue 0 1 if rank<rank;", 2, 18);
        refuses("issue 0 1 if rank<1 if duty<1;", 2, 20);
        refuses("issue 0 1 if rank<1 duty<1;", 2, 20);
        refuses("issue 0 1 if rank<1 and;", 2, 23);
        refuses("life 0 1 if rank<1;", 2, 9);
        refuses("price 0 1 if rank<1;", 2, 10);
        refuses("issue 0 1;;", 2, 10);
        refuses("issue 0 1 price 0 1;", 2, 10);
    }

    private static void faultEnd() {
        C.test("promise 15: fault 2, the end has the length as its place");
        refuses("issue", 2, 5);
        refuses("issue 0", 2, 7);
        refuses("issue 0 1", 2, 9);
        refuses("issue 0 1   ", 2, 12);
        refuses("issue 0 1 if", 2, 12);
        refuses("issue 0 1 if rank", 2, 17);
        refuses("issue 0 1 if rank<", 2, 18);
        refuses("issue 0 1 if rank<1 and", 2, 23);
        refuses("from 1", 2, 6);
        refuses("life 0 1;price", 2, 14);
        StringBuilder whole = new StringBuilder("issue 0 1");
        while (whole.length() < 240) {
            whole.append(' ');
        }
        refuses(whole.toString(), 2, 240);
    }

    private static void faultBounds() {
        C.test("promise 15: fault 3, out of bounds");
        refuses("issue 4 1;", 3, 6);
        refuses("issue 0 10;", 3, 8);
        refuses("life 4 1;", 3, 5);
        refuses("life 0 0;", 3, 7);
        refuses("price 4 1;", 3, 6);
        refuses("issue 0 1 if rank<10;", 3, 18);
        refuses("issue 0 1 if duty=9999;", 3, 18);
        refuses("issue 0 1 if climate>0 and rank=11;", 3, 32);
    }

    private static void faultTooMany() {
        C.test("promise 15: fault 4, the 13th line and the 4th test");
        String four = "issue 0 1 if rank<1 and duty<1 and climate<1 and ";
        refuses(four + "rank<1;", 4, 49);
        refuses(four + "climate", 4, 49);
        refuses(four + "life", 2, 49);
        refuses(four + "xyz", 1, 49);
        refuses(four + "5", 2, 49);
        String line = "life 0 1;price 0 1;";
        StringBuilder twelve = new StringBuilder("issue 0 1;issue 0 1;issue 0 1;issue 0 1;");
        for (int kind = 0; kind < 4; kind++) {
            twelve.append(line.replace(" 0 ", " " + kind + " "));
        }
        int at = twelve.length() + 1;
        reads(twelve + " ", 12);
        refuses(twelve + " issue 0 1;", 4, at);
        refuses(twelve + " from", 4, at);
        refuses(twelve + " price 9", 4, at);
        refuses(twelve + " what", 1, at);
        refuses(twelve + " ;", 2, at);
        refuses(twelve + " rank", 2, at);
    }

    private static void faultTwice() {
        C.test("promise 15: fault 5, told twice from the same day");
        refuses("life 0 9;life 0 8;", 5, 14);
        refuses("price 2 9;price 2 9;", 5, 16);
        refuses("price 2 9;from 0 price 2 9;", 5, 23);
        refuses("from 7 life 1 9;from 8 life 1 9;from 7 life 1 9;", 5, 44);
        refuses("life 0 9;life 0", 5, 14);
        refuses("life 0 9;life 0 99999;", 5, 14);
        refuses("life 0 9;life 4 1;", 3, 14);
        reads("life 0 9;life 1 9;price 0 9;from 1 life 0 9;from 1 price 0 9;", 5);
    }

    private static void faultOrder() {
        C.test("promise 15: fault, the first met as it is read");
        refuses("issue 4 10;", 3, 6);
        refuses("issue 0 10 xyz", 3, 8);
        refuses("issue 0 1 xyz 5 5", 1, 10);
        refuses("life 0 1; ; ?", 2, 10);
        refuses("life 0 0 ?", 3, 7);
        refuses("? life 0 0", 1, 0);
    }

    private static void due() {
        C.test("promise 16: due");
        ClothForce x = new ClothForce();
        C.due("due(0, 0, 0)", x.due(0, 0, 0), BAD);
        x.body(2, 1, 0);
        x.body(3, 1, 0);
        C.due("due(0, 0, 0)", x.due(0, 0, 0), 0);
        Checks.read(x, "issue 0 2;from 5 issue 0 4 if rank>2;from 5 issue 0 1;from 9 issue 1 9;");
        C.due("due(0, 0, 4)", x.due(0, 0, 4), 2);
        C.due("due(0, 0, 5)", x.due(0, 0, 5), 2);
        C.due("due(1, 0, 4)", x.due(1, 0, 4), 2);
        C.due("due(1, 0, 5)", x.due(1, 0, 5), 4);
        C.due("due(1, 1, 8)", x.due(1, 1, 8), 0);
        C.due("due(1, 1, 9)", x.due(1, 1, 9), 9);
        C.due("due(1, 2, 9999)", x.due(1, 2, 9999), 0);
        x.becomes(0, 0, 5);
        C.due("due(0, 0, 5)", x.due(0, 0, 5), 4);
        C.due("due(0, 0, -1)", x.due(0, 0, -1), BAD);
        C.due("due(0, 0, 10000)", x.due(0, 0, 10000), BAD);
        C.due("due(0, 4, 0)", x.due(0, 4, 0), BAD);
        C.due("due(0, -1, 0)", x.due(0, -1, 0), BAD);
        C.due("due(2, 0, 0)", x.due(2, 0, 0), BAD);
        C.due("due(-1, 0, 0)", x.due(-1, 0, 0), BAD);
    }

    private static void dueTests() {
        C.test("promise 16: due, each test and sign");
        ClothForce x = new ClothForce();
        x.body(2, 1, 1);
        String[] names = {"rank", "duty", "climate"};
        int[] has = {2, 1, 1};
        for (int t = 0; t < 3; t++) {
            for (int n = 0; n <= 9; n++) {
                Checks.read(x, "issue 0 1 if " + names[t] + "<" + n + ";issue 1 1 if " + names[t] + "=" + n
                        + ";issue 2 1 if " + names[t] + ">" + n + ";");
                C.due(names[t] + "<" + n, x.due(0, 0, 0), has[t] < n ? 1 : 0);
                C.due(names[t] + "=" + n, x.due(0, 1, 0), has[t] == n ? 1 : 0);
                C.due(names[t] + ">" + n, x.due(0, 2, 0), has[t] > n ? 1 : 0);
            }
        }
        Checks.read(x, "issue 0 1 if rank=2 and duty=1 and climate=0;issue 1 1 if rank=2 and duty=1 and climate=1;"
                + "issue 2 1 if rank=1 and duty=1 and climate=1;issue 3 1 if rank>1 and rank<3;");
        C.due("due(0, 0, 0)", x.due(0, 0, 0), 0);
        C.due("due(0, 1, 0)", x.due(0, 1, 0), 1);
        C.due("due(0, 2, 0)", x.due(0, 2, 0), 0);
        C.due("due(0, 3, 0)", x.due(0, 3, 0), 1);
    }

    private static void why() {
        C.test("promise 17: why");
        ClothForce x = new ClothForce();
        x.body(2, 1, 0);
        C.due("why(0, 0, 0)", x.why(0, 0, 0), NONE);
        Checks.read(x, "life 0 9;from 3 issue 0 0;issue 1 5;issue 0 2 if rank>4;"
                + "from 6 issue 0 2;from 7 issue 0 2;from 8 issue 0 3;");
        C.due("why(0, 0, 2)", x.why(0, 0, 2), NONE);
        C.due("why(0, 0, 3)", x.why(0, 0, 3), 1);
        C.due("due(0, 0, 3)", x.due(0, 0, 3), 0);
        C.due("why(0, 0, 6)", x.why(0, 0, 6), 4);
        C.due("why(0, 0, 7)", x.why(0, 0, 7), 4);
        C.due("why(0, 0, 9999)", x.why(0, 0, 9999), 6);
        C.due("why(0, 1, 0)", x.why(0, 1, 0), 2);
        C.due("why(0, 2, 0)", x.why(0, 2, 0), NONE);
        C.due("why(0, 0, -1)", x.why(0, 0, -1), BAD);
        C.due("why(0, 0, 10000)", x.why(0, 0, 10000), BAD);
        C.due("why(0, 4, 0)", x.why(0, 4, 0), BAD);
        C.due("why(1, 0, 0)", x.why(1, 0, 0), BAD);
        C.due("why(-1, 0, 0)", x.why(-1, 0, 0), BAD);
    }

    private static void rule() {
        C.test("promise 18: rule");
        ClothForce x = new ClothForce();
        C.due("rule(3, 0, 0)", x.rule(3, 0, 0), 365);
        C.due("rule(3, 1, 9999)", x.rule(3, 1, 9999), 100);
        Checks.read(x, "from 9 life 0 5;from 4 life 0 6;from 4 price 0 0;from 2 price 1 7;");
        C.due("rule(0, 0, 3)", x.rule(0, 0, 3), 365);
        C.due("rule(0, 0, 4)", x.rule(0, 0, 4), 6);
        C.due("rule(0, 0, 8)", x.rule(0, 0, 8), 6);
        C.due("rule(0, 0, 9)", x.rule(0, 0, 9), 5);
        C.due("rule(0, 1, 3)", x.rule(0, 1, 3), 100);
        C.due("rule(0, 1, 4)", x.rule(0, 1, 4), 0);
        C.due("rule(1, 1, 9999)", x.rule(1, 1, 9999), 7);
        C.due("rule(1, 0, 9999)", x.rule(1, 0, 9999), 365);
        C.due("rule(4, 0, 0)", x.rule(4, 0, 0), BAD);
        C.due("rule(-1, 0, 0)", x.rule(-1, 0, 0), BAD);
        C.due("rule(0, 2, 0)", x.rule(0, 2, 0), BAD);
        C.due("rule(0, -1, 0)", x.rule(0, -1, 0), BAD);
        C.due("rule(0, 0, -1)", x.rule(0, 0, -1), BAD);
        C.due("rule(0, 0, 10000)", x.rule(0, 0, 10000), BAD);
    }
}
