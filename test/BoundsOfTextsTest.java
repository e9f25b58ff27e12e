/**
 * Promises 12 to 18: each sentence that names a bound, on both of its sides. A test's name tells the promise and, in
 * quotes, the sentence; what is refused leaves all as it was, but THE TAPE of a text.
 */
public final class BoundsOfTextsTest {
    private static final int BAD = -1, FULL = -3, NONE = -4;
    private static final int NO_TOKEN = 1, MISPLACED = 2, OUT_OF_BOUNDS = 3, TOO_MANY = 4, TWICE = 5;
    private static final long BLANKS = 0x2020202020202020L;
    private static final Checks C = new Checks();
    private static final Bounds B = new Bounds(C);

    public static void main(String[] args) {
        feed();
        end();
        text();
        tokens();
        words();
        faults();
        fault();
        due();
        why();
        rule();
        C.finish();
    }

    // ---- promise 12

    private static void feed() {
        feedRoom();
        feedFull();
        feedFullByFewerBytes();
        feedOrder();
        feedSigns();
    }

    private static void feedRoom() {
        C.test("promise 12, 'how many it has': from none to 240");
        ClothForce x = new ClothForce();
        for (int i = 1; i <= 30; i++) {
            C.due("feed", x.feed(BLANKS), 8 * i);
            C.due("count(11)", x.count(11), 8 * i);
        }
    }

    private static void feedFull() {
        C.test("promise 12, 'FULL: more than 240': the 240th byte, and one more");
        C.due("count(11)", Camp.fullTape().count(11), 240);
        B.refused("feed behind 240 bytes", Camp::fullTape, FULL, x -> x.feed(-1L));
        ClothForce x = Camp.fullTape();
        x.feed(0);
        C.due("text()", x.text(), 1);
        C.due("rule(1, 1, 0)", x.rule(1, 1, 0), 7);
        C.due("feed behind the text", x.feed(0), 8);
    }

    private static ClothForce tapeOf(int bytes) {
        ClothForce x = Camp.fullTape();
        x.end(bytes);
        return x;
    }

    private static void feedFullByFewerBytes() {
        C.test("promise 12, 'FULL: more than 240': eight bytes behind 232, and behind 233 to 239");
        C.due("feed behind 232 bytes", tapeOf(232).feed(BLANKS), 240);
        C.due("feed behind 231 bytes", tapeOf(231).feed(BLANKS), 239);
        for (int bytes = 233; bytes < 240; bytes++) {
            int had = bytes;
            B.refused("feed behind " + bytes + " bytes", () -> tapeOf(had), FULL, x -> x.feed('?'));
        }
    }

    private static void feedOrder() {
        C.test("promise 12, 'the highest first': behind what THE TAPE has");
        ClothForce x = new ClothForce();
        Checks.type(x, "life 1 ");
        C.due("feed(\"2345;pri\")", x.feed(0x323334353B707269L), 15);
        C.due("feed(\"ce 2 67;\")", x.feed(0x636520322036373BL), 23);
        C.due("text()", x.text(), 2);
        C.due("rule(1, 0, 0)", x.rule(1, 0, 0), 2345);
        C.due("rule(2, 1, 0)", x.rule(2, 1, 0), 67);
    }

    private static void feedSigns() {
        C.test("promise 12, 'Eight bytes': any long, below 0 and least and greatest");
        long[] all = {0, -1, 1, Long.MIN_VALUE, Long.MAX_VALUE, 0x20202020202020FFL};
        int[] place = {0, 0, 0, 0, 0, 7};
        for (int i = 0; i < all.length; i++) {
            ClothForce x = new ClothForce();
            C.due("feed(" + all[i] + ")", x.feed(all[i]), 8);
            C.due("text()", x.text(), -10 - place[i]);
            C.due("fault()", x.fault(), NO_TOKEN);
        }
    }

    // ---- promise 13

    private static void end() {
        C.test("promise 13, 'BAD (n above that, too)': 0 and as many as it has, -1 and one more");
        B.between("end(n) of 10 bytes", Camp::some, 0, Camp.BYTES, (x, n) -> x.end(n));
        B.between("end(n) of 240 bytes", Camp::fullTape, 0, 240, (x, n) -> x.end(n));
        endNothingYet();
        endKeeps();
        endHad();
    }

    private static void endNothingYet() {
        C.test("promise 13, 'n above that, too': nothing on THE TAPE yet");
        C.due("end(0)", new ClothForce().end(0), 0);
        B.outside("end(n) of nothing", ClothForce::new, 0, 0, (x, n) -> x.end(n));
    }

    private static void endKeeps() {
        C.test("promise 13, 'THE TAPE keeps its first n bytes': all, all but one, none");
        String signs = "price 1 77;";
        int[] kept = {11, 10, 9, 8, 0};
        int[] answers = {1, -20, -19, -18, 0};
        for (int i = 0; i < kept.length; i++) {
            ClothForce x = new ClothForce();
            Checks.type(x, signs);
            C.due("end(" + kept[i] + ")", x.end(kept[i]), 11);
            C.due("count(11)", x.count(11), kept[i]);
            C.due("text() of " + kept[i] + " bytes", x.text(), answers[i]);
        }
        ClothForce x = new ClothForce();
        Checks.type(x, "price 1 77;");
        x.end(9);
        Checks.type(x, "8;");
        C.due("text()", x.text(), 1);
        C.due("rule(1, 1, 0)", x.rule(1, 1, 0), 78);
    }

    private static void endHad() {
        C.test("promise 13, 'how many it had': behind refused ones too");
        ClothForce x = new ClothForce();
        x.feed(0);
        C.due("end(9)", x.end(9), BAD);
        C.due("end(8)", x.end(8), 8);
        C.due("end(7)", x.end(7), 8);
        C.due("end(8)", x.end(8), BAD);
        C.due("end(-1)", x.end(-1), BAD);
        C.due("end(0)", x.end(0), 7);
        C.due("end(0)", x.end(0), 0);
        C.due("end(1)", x.end(1), BAD);
    }

    // ---- promise 14

    private static void accepts(String signs, int lines) {
        ClothForce x = new ClothForce();
        C.due("text() of '" + signs + "'", Checks.read(x, signs), lines);
        C.due("fault() of '" + signs + "'", x.fault(), 0);
        C.due("count(7) of '" + signs + "'", x.count(7), lines);
        C.due("count(11) of '" + signs + "'", x.count(11), 0);
    }

    private static void refuses(String signs, int fault, int place) {
        ClothForce x = new ClothForce();
        C.due("text() of '" + signs + "'", Checks.read(x, signs), -10 - place);
        C.due("fault() of '" + signs + "'", x.fault(), fault);
        C.due("count(7) of '" + signs + "'", x.count(7), 0);
        C.due("count(11) of '" + signs + "'", x.count(11), 0);
    }

    /** What a text has told answers 'inside' for numbers from a least to a greatest, those next to it are refused. */
    private static void numberBounds(String ahead, int least, int greatest, String behind) {
        accepts(ahead + least + behind, 1);
        accepts(ahead + greatest + behind, 1);
        if (least > 0) {
            refuses(ahead + (least - 1) + behind, OUT_OF_BOUNDS, ahead.length());
        }
        boolean tooLong = greatest + 1 > 9999;
        refuses(ahead + (greatest + 1) + behind, tooLong ? NO_TOKEN : OUT_OF_BOUNDS, ahead.length());
        if (greatest < 9999) {
            refuses(ahead + 9999 + behind, OUT_OF_BOUNDS, ahead.length());
        }
    }

    private static String blanks(int many) {
        return " ".repeat(many);
    }

    private static void text() {
        textPlaces();
        textOfNothing();
        textEmptiesTape();
        textInPlace();
        textInPlaceOfTests();
        textKeepsByFault();
        textLines();
    }

    private static void textPlaces() {
        C.test("promise 14, '-10 less the place of its FAULT', 'places from 0': the first, the last, the end");
        refuses("?", NO_TOKEN, 0);
        refuses(";", MISPLACED, 0);
        refuses("?" + blanks(239), NO_TOKEN, 0);
        refuses(blanks(239) + "?", NO_TOKEN, 239);
        refuses(blanks(238) + "?", NO_TOKEN, 238);
        refuses(blanks(235) + "issue", MISPLACED, 240);
        refuses("issue" + blanks(235), MISPLACED, 240);
        refuses("issue" + blanks(234), MISPLACED, 239);
        accepts(blanks(230) + "life 0 99;", 1);
    }

    private static void textOfNothing() {
        C.test("promise 14, 'text: { line }': no byte, blanks alone");
        accepts("", 0);
        accepts(" ", 0);
        accepts(blanks(240), 0);
        ClothForce x = Camp.some();
        x.end(0);
        C.due("text() of nothing", x.text(), 0);
        C.due("count(7)", x.count(7), 0);
        C.due("fault()", x.fault(), 0);
        C.due("due(0, 0, 9999)", x.due(0, 0, 9999), 0);
    }

    private static void textEmptiesTape() {
        C.test("promise 14, 'THE TAPE (empty then, by a FAULT, too)'");
        String[] all = {"", "life 0 9;", "life 0 9", "?", "life 0 0;", "life 0 9;life 0 9;", blanks(240)};
        for (String signs : all) {
            ClothForce x = new ClothForce();
            Checks.read(x, signs);
            C.due("count(11) behind '" + signs + "'", x.count(11), 0);
            C.due("end(0) behind '" + signs + "'", x.end(0), 0);
            C.due("text() behind '" + signs + "'", x.text(), 0);
        }
    }

    private static void textInPlace() {
        C.test("promise 14, 'in place of those that were told': none of the old ones stays");
        ClothForce x = Camp.some();
        C.due("text()", x.text(), 1);
        C.due("count(7)", x.count(7), 1);
        for (int kind = 0; kind < 4; kind++) {
            C.due("due(0, kind, 9999)", x.due(0, kind, 9999), 0);
            C.due("why(0, kind, 9999)", x.why(0, kind, 9999), NONE);
            C.due("rule(kind, 0, 9999)", x.rule(kind, 0, 9999), 365);
            C.due("rule(kind, 1, 9999)", x.rule(kind, 1, 9999), kind == 1 ? 7 : 100);
        }
    }

    private static void textInPlaceOfTests() {
        C.test("promise 14, 'in place of those that were told': no test of an old line stays, of a refused one neither");
        ClothForce x = new ClothForce();
        x.body(0, 0, 0);
        for (int turn = 0; turn < 4; turn++) {
            Checks.read(x, "issue 0 7 if rank>1 and duty>1 and climate>1;");
            C.due("due with tests", x.due(0, 0, 0), 0);
            Checks.read(x, turn < 2 ? "issue 0 7;" : "issue 0 7 if rank<1;");
            C.due("due behind it", x.due(0, 0, 0), 7);
            Checks.read(x, "issue 0 8 if rank>1 and duty>1 and climate>1;?");
            C.due("due behind a refused one", x.due(0, 0, 0), 7);
        }
    }

    /** All of an object that had a text with a FAULT, but that FAULT, is what it was with THE TAPE emptied. */
    private static void keeps(String signs, int fault, int place) {
        B.alike("behind '" + signs + "'", () -> {
            ClothForce x = Camp.some();
            x.end(0);
            C.due("text() of '" + signs + "'", Checks.read(x, signs), -10 - place);
            C.due("fault() of '" + signs + "'", x.fault(), fault);
            Checks.read(x, "life 0 0;");
            return x;
        }, () -> {
            ClothForce x = Camp.some();
            x.end(0);
            return x;
        });
    }

    private static void textKeepsByFault() {
        C.test("promise 14, 'those that were told stay': by each FAULT, the first byte or the last one");
        keeps("?", NO_TOKEN, 0);
        keeps("life 0 77;price 0 66;issue 0 9;?", NO_TOKEN, 31);
        keeps("life 0 77;price 0 66;issue 0 9", MISPLACED, 30);
        keeps(";", MISPLACED, 0);
        keeps("life 0 77;issue 0 10;", OUT_OF_BOUNDS, 18);
        keeps("issue 0 9;".repeat(13), TOO_MANY, 120);
        keeps("issue 0 9 if rank<9 and rank<9 and rank<9 and rank<9;", TOO_MANY, 46);
        keeps("life 0 77;life 0 78;", TWICE, 15);
    }

    private static void textLines() {
        C.test("promise 14, 'how many lines': none, one, twelve");
        accepts("issue 0 1;", 1);
        for (int lines = 0; lines <= 12; lines++) {
            accepts("issue 0 1;".repeat(lines), lines);
            accepts("issue 0 1 ; ".repeat(lines), lines);
        }
        ClothForce x = new ClothForce();
        x.body(0, 0, 0);
        Checks.read(x, "issue 0 1;".repeat(11) + "issue 0 2;");
        C.due("why(0, 0, 0): the 12th", x.why(0, 0, 0), 11);
    }

    // ---- promise 14: TOKENS

    private static void tokens() {
        tokensBlanks();
        tokensNeedNoBlank();
        tokensBetweenNames();
        tokensBetweenNumbers();
        tokensAllBytes();
        tokensFigures();
    }

    private static void tokensBlanks() {
        C.test("promise 14, 'blanks (32) ahead, between, behind, as many as wanted'");
        accepts("   issue 0 1;", 1);
        accepts("issue 0 1;   ", 1);
        accepts("issue   0   1   if   rank   <   1   and   duty   =   2   ;   from   3   life   0   4   ;", 2);
        accepts(blanks(231) + "life 0 1;", 1);
        accepts("life 0 1;" + blanks(231), 1);
        accepts("life 0 " + blanks(231) + "1;", 1);
        for (char other : new char[] {0, 9, 10, 11, 12, 13, 31, 33, 127, 128, 160, 255}) {
            refuses("issue" + other + "0 1;", NO_TOKEN, 5);
            refuses(other + "issue 0 1;", NO_TOKEN, 0);
            refuses("issue 0 1;" + other, NO_TOKEN, 10);
        }
    }

    private static void tokensNeedNoBlank() {
        C.test("promise 14, 'else none is needed': name and number, number and name, all signs");
        accepts("issue0 1;", 1);
        accepts("issue0 1if rank<1and duty>2and climate=3;", 1);
        accepts("from3issue0 1;", 1);
        accepts("from3life0 1;from4price0 1;", 2);
        accepts("life 0 1;life 1 1;price 0 1;issue 0 1;", 4);
    }

    private static void tokensBetweenNames() {
        C.test("promise 14, 'at least one between two NAMES'");
        accepts("issue 0 1 if rank<1 and duty<1;", 1);
        refuses("issue 0 1 ifrank<1;", NO_TOKEN, 10);
        refuses("issue 0 1 if rank<1 andduty<1;", NO_TOKEN, 20);
        refuses("issue 0 1 if rankduty<1;", NO_TOKEN, 13);
        refuses("fromlife 0 1;", NO_TOKEN, 0);
    }

    private static void tokensBetweenNumbers() {
        C.test("promise 14, 'at least one .. between two NUMBERS'");
        accepts("issue 0 1;", 1);
        refuses("issue 01;", MISPLACED, 8);
        refuses("issue 31;", OUT_OF_BOUNDS, 6);
        refuses("life 09999;", NO_TOKEN, 5);
        refuses("life 0999;", OUT_OF_BOUNDS, 5);
    }

    private static void tokensAllBytes() {
        C.test("promise 14, 'NAMES (a .. z), NUMBERS, one of the signs < > = ;': all 256 bytes");
        for (int sign = 0; sign < 256; sign++) {
            boolean letter = sign >= 'a' && sign <= 'z';
            boolean figure = sign >= '0' && sign <= '9';
            boolean other = sign == '<' || sign == '>' || sign == '=' || sign == ';';
            if (sign == ' ') {
                accepts("life 0 5 ;", 1);
            } else if (sign == ';') {
                refuses("life 0 5;;", MISPLACED, 9);
            } else if (figure) {
                accepts("life 0 5" + (char) sign + ";", 1);
            } else {
                refuses("life 0 5" + (char) sign + ";", other ? MISPLACED : NO_TOKEN, 8);
            }
            if (letter) {
                refuses("life" + (char) sign + " 0 5;", NO_TOKEN, 0);
                refuses((char) sign + "life 0 5;", NO_TOKEN, 0);
            }
            if (!letter && !figure && !other && sign != ' ') {
                refuses("" + (char) sign, NO_TOKEN, 0);
                refuses("life" + (char) sign, NO_TOKEN, 4);
            }
        }
    }

    private static void tokensFigures() {
        C.test("promise 14, 'NUMBERS (1 to 4 figures)': four, and five; noughts ahead count");
        accepts("life 0 1;", 1);
        accepts("life 0 9999;", 1);
        accepts("life 0 0009;", 1);
        accepts("life 0000 0009;", 1);
        refuses("life 0 10000;", NO_TOKEN, 7);
        refuses("life 0 00009;", NO_TOKEN, 7);
        refuses("life 00000 9;", NO_TOKEN, 5);
        refuses("life 0 99999;", NO_TOKEN, 7);
        refuses("life 0 " + "1".repeat(233), NO_TOKEN, 7);
        refuses("9".repeat(240), NO_TOKEN, 0);
        refuses("from 00000 life 0 1;", NO_TOKEN, 5);
        refuses("issue 0 1 if rank<00001;", NO_TOKEN, 18);
        ClothForce x = new ClothForce();
        Checks.read(x, "life 3 0012;price 0002 0345;");
        C.due("rule(3, 0, 0)", x.rule(3, 0, 0), 12);
        C.due("rule(2, 1, 0)", x.rule(2, 1, 0), 345);
    }

    // ---- promise 14: the bounds of the numbers in it

    private static void words() {
        C.test("promise 14, 'from: a day (0 to 9999)'");
        numberBounds("from ", 0, 9999, " life 0 1;");
        numberBounds("from ", 0, 9999, " issue 0 1;");
        numberBounds("from ", 0, 9999, " price 0 1;");
        C.test("promise 14, 'issue: a KIND (0 to 3)'");
        numberBounds("issue ", 0, 3, " 1;");
        C.test("promise 14, 'issue: how many (0 to 9)'");
        numberBounds("issue 0 ", 0, 9, ";");
        numberBounds("from 5 issue 3 ", 0, 9, " if rank<1;");
        C.test("promise 14, 'life: a KIND (0 to 3)'");
        numberBounds("life ", 0, 3, " 1;");
        C.test("promise 14, 'life: days (1 to 9999)'");
        numberBounds("life 0 ", 1, 9999, ";");
        numberBounds("from 5 life 3 ", 1, 9999, ";");
        C.test("promise 14, 'price: a KIND (0 to 3)'");
        numberBounds("price ", 0, 3, " 1;");
        C.test("promise 14, 'price: 0 to 9999'");
        numberBounds("price 0 ", 0, 9999, ";");
        numberBounds("from 5 price 3 ", 0, 9999, ";");
        C.test("promise 14, 'N in tests: 0 to 9'");
        for (String trait : new String[] {"rank", "duty", "climate"}) {
            for (String sign : new String[] {"<", ">", "="}) {
                numberBounds("issue 0 1 if " + trait + sign, 0, 9, ";");
                numberBounds("issue 0 1 if rank<1 and duty<1 and " + trait + sign, 0, 9, ";");
            }
        }
        wordsFromNotTold();
    }

    private static void wordsFromNotTold() {
        C.test("promise 14, 'from (0, if it is not told)': for each line anew");
        ClothForce x = new ClothForce();
        x.body(0, 0, 0);
        Checks.read(x, "from 7 life 0 11;price 0 22;from 7 issue 0 2;issue 0 1;life 0 33;");
        C.due("rule(0, 0, 0)", x.rule(0, 0, 0), 33);
        C.due("rule(0, 0, 7)", x.rule(0, 0, 7), 11);
        C.due("rule(0, 1, 0)", x.rule(0, 1, 0), 22);
        C.due("due(0, 0, 6)", x.due(0, 0, 6), 1);
        C.due("due(0, 0, 7)", x.due(0, 0, 7), 2);
    }

    // ---- promise 15: each FAULT

    private static void faults() {
        faultNames();
        faultTokenByToken();
        faultEnds();
        faultTests();
        faultTestsOfEachLine();
        faultLines();
        faultTwiceDay();
        faultTwiceKind();
        faultTwiceAtKind();
        faultTwiceInOneText();
        faultFirstMet();
    }

    private static void faultNames() {
        C.test("promise 15, '1 .. a NAME that is none of these': one letter more, one fewer, another");
        for (String name : new String[] {"from", "issue", "life", "price", "if", "and", "rank", "duty", "climate"}) {
            refuses(name + "s", NO_TOKEN, 0);
            refuses("s" + name, NO_TOKEN, 0);
            refuses(name.substring(0, name.length() - 1), NO_TOKEN, 0);
            refuses(name.substring(1), NO_TOKEN, 0);
            refuses(name.substring(0, name.length() - 1) + "q", NO_TOKEN, 0);
            refuses("q" + name.substring(1), NO_TOKEN, 0);
            refuses(name + name, NO_TOKEN, 0);
            refuses(name.toUpperCase(), NO_TOKEN, 0);
            refuses("issue 0 1 if " + name + "s", NO_TOKEN, 13);
        }
        refuses("x".repeat(240), NO_TOKEN, 0);
    }

    /** In place of each TOKEN of a line, each TOKEN that can not stand there. */
    private static void faultTokenByToken() {
        C.test("promise 15, '2 a TOKEN that can not stand there': each in the place of each");
        String[] line = {"from", "1", "issue", "2", "3", "if", "rank", "<", "1", "and", "duty", ">", "2", ";"};
        String[] fit = {"from issue life price", "1", "issue life price", "1", "1", "if ;", "rank duty climate", "< > =",
            "1", "and ;", "rank duty climate", "< > =", "1", "and ;"};
        String[] all = {"from", "issue", "life", "price", "if", "and", "rank", "duty", "climate", "<", ">", "=", ";", "1"};
        StringBuilder ahead = new StringBuilder();
        for (int i = 0; i < line.length; i++) {
            for (String token : all) {
                if (!(" " + fit[i] + " ").contains(" " + token + " ")) {
                    refuses(ahead + token, MISPLACED, ahead.length());
                    refuses(ahead + token + " ?", MISPLACED, ahead.length());
                }
            }
            ahead.append(line[i]).append(' ');
        }
        accepts(ahead.toString(), 1);
        for (String rule : new String[] {"life 0 1 ", "price 0 1 "}) {
            for (String token : all) {
                if (!token.equals(";")) {
                    refuses(rule + token, MISPLACED, rule.length());
                }
            }
        }
    }

    private static void faultEnds() {
        C.test("promise 15, '2 .. (or the end: the length)': behind each TOKEN, blanks behind it counted");
        String[] line = {"from", "1", "issue", "2", "3", "if", "rank", "<", "1", "and", "duty", ">", "2"};
        StringBuilder ahead = new StringBuilder();
        for (String token : line) {
            ahead.append(token);
            refuses(ahead.toString(), MISPLACED, ahead.length());
            refuses(ahead + "   ", MISPLACED, ahead.length() + 3);
            ahead.append(' ');
        }
        accepts(ahead + ";", 1);
        accepts(ahead + ";" + blanks(3), 1);
        refuses("life 0 1;life", MISPLACED, 13);
    }

    private static void faultTests() {
        C.test("promise 15, '4 .. the 4th test of a line (its NAME)': the third, and the fourth");
        String three = "issue 0 1 if rank<1 and duty<2 and climate<3";
        accepts("issue 0 1;", 1);
        accepts("issue 0 1 if rank<1;", 1);
        accepts("issue 0 1 if rank<1 and rank<1;", 1);
        accepts(three + ";", 1);
        for (String name : new String[] {"rank", "duty", "climate"}) {
            refuses(three + " and " + name + "<1;", TOO_MANY, 49);
            refuses(three + " and   " + name, TOO_MANY, 51);
            refuses(three + " and " + name + "<10;", TOO_MANY, 49);
        }
        refuses(three + " and", MISPLACED, 48);
        refuses(three + " and ;", MISPLACED, 49);
        refuses(three + " and ranks", NO_TOKEN, 49);
    }

    private static void faultTestsOfEachLine() {
        C.test("promise 15, '4 .. the 4th test of a line': of each line anew");
        String three = "issue 0 1 if rank<1 and duty<2 and climate<3";
        accepts(three + ";" + three + ";" + three + ";", 3);
        refuses(three + ";" + three + " and rank<1;", TOO_MANY, 45 + 49);
        accepts("issue 0 1 if rank<1 and duty<2;issue 0 1 if rank<1 and duty<2;", 2);
    }

    private static void faultLines() {
        C.test("promise 15, '4 the 13th line (its first TOKEN)': the 12th, and the 13th");
        String twelve = "issue 0 1;".repeat(12);
        accepts(twelve, 12);
        accepts(twelve + blanks(120), 12);
        for (String first : new String[] {"issue 0 1;", "life 0 1;", "price 0 1;", "from 1 life 0 1;"}) {
            accepts("issue 0 1;".repeat(11) + first, 12);
            refuses(twelve + first, TOO_MANY, 120);
            refuses(twelve + "   " + first, TOO_MANY, 123);
        }
        for (String first : new String[] {"issue", "life", "price", "from", "life 4", "from ?", "issue 0 10;"}) {
            refuses(twelve + first, TOO_MANY, 120);
        }
        refuses("issue 0 1;".repeat(14), TOO_MANY, 120);
        refuses(twelve + "?", NO_TOKEN, 120);
    }

    private static void faultTwiceDay() {
        C.test("promise 15, '5 a life, a price .. from the same day': the same day, the next ones");
        for (String rule : new String[] {"life", "price"}) {
            String one = "from 5 " + rule + " 0 9;";
            int at = one.length() + one.indexOf('0');
            refuses(one + one, TWICE, at);
            refuses(one + "from 5 " + rule + " 0 8;", TWICE, at);
            refuses(one + "from 0005 " + rule + " 0 9;", TWICE, at + 3);
            accepts(one + "from 4 " + rule + " 0 9;", 2);
            accepts(one + "from 6 " + rule + " 0 9;", 2);
            accepts(one + rule + " 0 9;", 2);
            refuses(rule + " 0 9;from 0 " + rule + " 0 9;", TWICE, 2 * rule.length() + 13);
            refuses("from 0 " + rule + " 0 9;" + rule + " 0 9;", TWICE, 2 * rule.length() + 13);
            refuses("from 9999 " + rule + " 3 9;from 9999 " + rule + " 3 9;", TWICE, 2 * rule.length() + 26);
        }
    }

    private static void faultTwiceKind() {
        C.test("promise 15, '5 a life, a price of a KIND': each KIND, life and price for themselves, never an issue");
        accepts("life 0 9;life 1 9;life 2 9;life 3 9;price 0 9;price 1 9;price 2 9;price 3 9;", 8);
        for (int kind = 0; kind < 4; kind++) {
            refuses("life 0 9;life 1 9;life 2 9;life 3 9;life " + kind + " 9;", TWICE, 41);
            refuses("price 0 9;price 1 9;price 2 9;price 3 9;price " + kind + " 9;", TWICE, 46);
        }
        accepts("issue 0 9;issue 0 9;life 0 9;issue 0 9;price 0 9;", 5);
    }

    private static void faultTwiceAtKind() {
        C.test("promise 15, '5 .. (at the KIND, behind 3)': a KIND out of bounds first, the number behind it not read yet");
        refuses("life 0 9;life 4 9;", OUT_OF_BOUNDS, 14);
        refuses("life 0 9;life 0", TWICE, 14);
        refuses("life 0 9;life 0 0;", TWICE, 14);
        refuses("life 0 9;life 0 ?", TWICE, 14);
        refuses("price 0 9;price 0 99999;", TWICE, 16);
        refuses("life 0 9;life", MISPLACED, 13);
        refuses("life 0 9;life 00000 9;", NO_TOKEN, 14);
        refuses("life 0 9;life 0000 9;", TWICE, 14);
    }

    private static void faultTwiceInOneText() {
        C.test("promise 15, '5 .. for which one is told': in the same text, not in one ahead of it, refused or not");
        ClothForce x = new ClothForce();
        C.due("the first", Checks.read(x, "life 0 9;price 0 9;"), 2);
        C.due("once more", Checks.read(x, "life 0 8;price 0 8;"), 2);
        C.due("refused", Checks.read(x, "life 0 7;price 0 7;?"), -29);
        C.due("behind a refused one", Checks.read(x, "life 0 6;price 0 6;"), 2);
        C.due("rule(0, 0, 0)", x.rule(0, 0, 0), 6);
    }

    private static void faultFirstMet() {
        C.test("promise 15, 'the first met as it is read': a worse one behind it is not looked at");
        refuses("issue 9 ?", OUT_OF_BOUNDS, 6);
        refuses("issue 0 99999 10;", NO_TOKEN, 8);
        refuses("issue issue ?", MISPLACED, 6);
        refuses("issue ? issue", NO_TOKEN, 6);
        refuses("life 0 1;life 0 1;?", TWICE, 14);
        refuses("issue 0 1 if rank=10 and ?", OUT_OF_BOUNDS, 18);
        refuses("from 1 life 4 0;", OUT_OF_BOUNDS, 12);
        refuses("life 0 0 ;", OUT_OF_BOUNDS, 7);
        refuses("price 0 1 ? life 9 9", NO_TOKEN, 10);
    }

    private static void fault() {
        C.test("promise 15, 'The FAULT of the latest text(); 0': none yet, one, none again");
        ClothForce x = new ClothForce();
        C.due("none yet", x.fault(), 0);
        String[] all = {"?", ";", "life 4 1;", "issue 0 1;".repeat(13), "life 0 1;life 0 1;"};
        for (int i = 0; i < all.length; i++) {
            C.due("a FAULT", Checks.read(x, all[i]) < 0 ? 1 : 0, 1);
            C.due("fault()", x.fault(), i + 1);
            C.due("fault() again", x.fault(), i + 1);
        }
        x.feed(BLANKS);
        C.due("fault() ahead of the next text", x.fault(), 5);
        C.due("text() of blanks", x.text(), 0);
        C.due("fault() behind it", x.fault(), 0);
        C.test("promise 15, an answer changes nothing");
        B.refused("fault()", Camp::some, OUT_OF_BOUNDS, y -> y.fault());
    }

    // ---- promise 16

    private static void due() {
        C.test("promise 16, 'no such BODY'");
        B.between("due(b, 0, 0)", Camp::some, 0, Camp.BODIES - 1, (x, b) -> x.due(b, 0, 0));
        B.between("due(b, 0, 0) of 12", Camp::fullOfBodies, 0, 11, (x, b) -> x.due(b, 0, 0));
        C.test("promise 16, 'KINDS 0 to 3'");
        B.between("due(0, kind, 0)", Camp::some, 0, 3, (x, kind) -> x.due(0, kind, 0));
        C.test("promise 16, 'a day (0 to 9999)'");
        B.between("due(0, 0, day)", Camp::some, 0, 9999, (x, day) -> x.due(0, 0, day));
        dueFrom();
        dueGreatest();
        dueTests();
        dueAllTests();
        dueAsNow();
        C.test("promise 16, an answer changes nothing");
        B.refused("due(1, 0, 5)", Camp::some, 4, x -> x.due(1, 0, 5));
    }

    /** A BODY with these, and a text. */
    private static ClothForce ruled(int rank, int duty, int climate, String signs) {
        ClothForce x = new ClothForce();
        x.body(rank, duty, climate);
        C.due("text() of '" + signs + "' is read", Checks.read(x, signs) >= 0 ? 1 : 0, 1);
        return x;
    }

    private static void dueFrom() {
        C.test("promise 16, 'from that day or ahead': that day, the day ahead of it, the last day");
        ClothForce x = ruled(0, 0, 0, "from 6 issue 0 3;from 9999 issue 1 4;issue 2 5;");
        C.due("due(0, 0, 5)", x.due(0, 0, 5), 0);
        C.due("due(0, 0, 6)", x.due(0, 0, 6), 3);
        C.due("due(0, 0, 9999)", x.due(0, 0, 9999), 3);
        C.due("due(0, 1, 9998)", x.due(0, 1, 9998), 0);
        C.due("due(0, 1, 9999)", x.due(0, 1, 9999), 4);
        C.due("due(0, 2, 0)", x.due(0, 2, 0), 5);
        x.day(5);
        C.due("due(0, 0, 6), ahead of THE DAY", x.due(0, 0, 6), 3);
        x.day(9);
        C.due("due(0, 0, 5), behind THE DAY", x.due(0, 0, 5), 0);
    }

    private static void dueGreatest() {
        C.test("promise 16, 'the greatest number of all issue lines of that KIND .. (0: none)'");
        ClothForce x = ruled(0, 0, 0, "issue 0 0;issue 1 9;issue 1 8;issue 2 1;issue 2 2;life 3 7;price 3 7;");
        int[] due = {0, 9, 2, 0};
        for (int kind = 0; kind < 4; kind++) {
            C.due("due(0, " + kind + ", 0)", x.due(0, kind, 0), due[kind]);
        }
    }

    private static void dueTests() {
        C.test("promise 16, 'whose tests hold': < > = at the number, one below, one above");
        int[] most = {5, 3, 2};
        String[] names = {"rank", "duty", "climate"};
        for (int t = 0; t < 3; t++) {
            for (int v = 0; v <= most[t]; v++) {
                for (int n = Math.max(0, v - 1); n <= v + 1; n++) {
                    String test = " if " + names[t] + "#" + n + ";";
                    String signs = "issue 0 1" + test.replace('#', '<') + "issue 1 1" + test.replace('#', '=')
                        + "issue 2 1" + test.replace('#', '>');
                    ClothForce x = ruled(t == 0 ? v : 1, t == 1 ? v : 1, t == 2 ? v : 1, signs);
                    C.due(v + " < " + n, x.due(0, 0, 0), v < n ? 1 : 0);
                    C.due(v + " = " + n, x.due(0, 1, 0), v == n ? 1 : 0);
                    C.due(v + " > " + n, x.due(0, 2, 0), v > n ? 1 : 0);
                }
            }
        }
    }

    private static void dueAllTests() {
        C.test("promise 16, 'whose tests hold': all of them, not some");
        for (int off = 0; off < 8; off++) {
            String signs = "issue 0 3 if rank=" + (2 + (off & 1)) + " and duty=" + (1 + (off >> 1 & 1)) + " and climate="
                + (0 + (off >> 2 & 1)) + ";";
            C.due("due by " + signs, ruled(2, 1, 0, signs).due(0, 0, 0), off == 0 ? 3 : 0);
        }
        C.due("between", ruled(2, 0, 0, "issue 0 3 if rank>1 and rank<3;").due(0, 0, 0), 3);
        C.due("never", ruled(2, 0, 0, "issue 0 3 if rank<2 and rank>2;").due(0, 0, 0), 0);
    }

    private static void dueAsNow() {
        C.test("promise 16, '(as it is now)': also on days behind THE DAY");
        ClothForce x = ruled(2, 0, 0, "issue 0 3 if rank=2;issue 0 5 if rank=4;");
        x.day(10);
        C.due("due(0, 0, 0)", x.due(0, 0, 0), 3);
        x.becomes(0, 0, 4);
        C.due("due(0, 0, 0)", x.due(0, 0, 0), 5);
        x.becomes(0, 0, 3);
        C.due("due(0, 0, 0)", x.due(0, 0, 0), 0);
    }

    // ---- promise 17

    private static void why() {
        C.test("promise 17, 'no such BODY'");
        Bounds.Ready all = () -> {
            ClothForce x = Camp.fullOfBodies();
            x.end(0);
            Checks.read(x, "issue 0 1;issue 1 1;issue 2 1;issue 3 1;");
            return x;
        };
        B.between("why(b, 0, 0)", Camp::some, 0, Camp.BODIES - 1, (x, b) -> x.why(b, 0, 0));
        B.between("why(b, 0, 0) of 12", all, 0, 11, (x, b) -> x.why(b, 0, 0));
        C.test("promise 17, 'KINDS 0 to 3'");
        B.between("why(0, kind, 0)", all, 0, 3, (x, kind) -> x.why(0, kind, 0));
        C.test("promise 17, 'a day (0 to 9999)'");
        B.between("why(0, 0, day)", Camp::some, 0, 9999, (x, day) -> x.why(0, 0, day));
        whyNone();
        whyNought();
        whyFirst();
        whyLines();
        C.test("promise 17, 'the first that fits': BAD ahead of NONE");
        B.outside("why(b, 3, 0)", Camp::some, 0, Camp.BODIES - 1, (x, b) -> x.why(b, 3, 0));
        B.outside("why(0, 3, day)", Camp::some, 0, 9999, (x, day) -> x.why(0, 3, day));
        B.outside("why(0, kind, 0) of no line", ClothForce::new, 0, 3, (x, kind) -> x.why(0, kind, 0));
        C.test("promise 17, 'NONE: none holds': it changes nothing");
        B.refused("why(0, 3, 9999)", Camp::some, NONE, x -> x.why(0, 3, 9999));
    }

    private static void whyNone() {
        C.test("promise 17, 'NONE: none holds': no line, of another KIND, a day later, a test that does not hold");
        C.due("no line", ruled(0, 0, 0, "").why(0, 0, 9999), NONE);
        C.due("another KIND", ruled(0, 0, 0, "issue 1 9;life 0 9;price 0 9;").why(0, 0, 9999), NONE);
        ClothForce x = ruled(0, 0, 0, "from 6 issue 0 2;from 9999 issue 1 2;");
        C.due("why(0, 0, 5)", x.why(0, 0, 5), NONE);
        C.due("why(0, 0, 6)", x.why(0, 0, 6), 0);
        C.due("why(0, 1, 9998)", x.why(0, 1, 9998), NONE);
        C.due("why(0, 1, 9999)", x.why(0, 1, 9999), 1);
        C.due("a test that does not hold", ruled(3, 0, 0, "issue 0 9 if rank<3;").why(0, 0, 9999), NONE);
        C.due("a test that holds", ruled(3, 0, 0, "issue 0 9 if rank<4;").why(0, 0, 9999), 0);
    }

    private static void whyNought() {
        C.test("promise 17, 'that with the greatest number (0 too)'");
        C.due("0 alone", ruled(0, 0, 0, "life 0 5;issue 0 0;").why(0, 0, 0), 1);
        C.due("0, then 0", ruled(0, 0, 0, "issue 0 0;issue 0 0;").why(0, 0, 0), 0);
        C.due("0, then 1", ruled(0, 0, 0, "issue 0 0;issue 0 1;").why(0, 0, 0), 1);
        C.due("1, then 0", ruled(0, 0, 0, "issue 0 1;issue 0 0;").why(0, 0, 0), 0);
        C.due("0, then 1 that does not hold", ruled(0, 0, 0, "issue 0 0;issue 0 1 if rank>0;").why(0, 0, 0), 0);
    }

    private static void whyFirst() {
        C.test("promise 17, 'of several the first': not the latest day, not the most tests");
        ClothForce x = ruled(0, 0, 0, "issue 0 3;from 2 issue 0 4;issue 0 4 if rank<1;from 3 issue 0 4;");
        C.due("why(0, 0, 1)", x.why(0, 0, 1), 2);
        C.due("why(0, 0, 2)", x.why(0, 0, 2), 1);
        C.due("why(0, 0, 3)", x.why(0, 0, 3), 1);
    }

    private static void whyLines() {
        C.test("promise 17, 'The line (from 0 on)': life and price are lines too; the first and the last of twelve");
        ClothForce x = ruled(0, 0, 0, "issue 1 1;" + "price 0 1;life 0 1;price 1 1;life 1 1;price 2 1;" + "life 2 1;"
            + "issue 0 1;".repeat(4) + "issue 0 2;");
        C.due("count(7)", x.count(7), 12);
        C.due("why(0, 1, 0)", x.why(0, 1, 0), 0);
        C.due("why(0, 0, 0)", x.why(0, 0, 0), 11);
    }

    // ---- promise 18

    private static void rule() {
        C.test("promise 18, 'KINDS 0 to 3'");
        B.between("rule(kind, 0, 0)", Camp::some, 0, 3, (x, kind) -> x.rule(kind, 0, 0));
        C.test("promise 18, 'LIFE (what 0), PRICE (1)': no other");
        B.between("rule(0, what, 0)", Camp::some, 0, 1, (x, what) -> x.rule(0, what, 0));
        C.test("promise 18, 'a day (0 to 9999)'");
        B.between("rule(0, 0, day)", Camp::some, 0, 9999, (x, day) -> x.rule(0, 0, day));
        B.between("rule(0, 1, day)", Camp::some, 0, 9999, (x, day) -> x.rule(0, 1, day));
        ruleNone();
        ruleUpTo();
        ruleLatest();
        ruleValues();
        C.test("promise 18, an answer changes nothing");
        B.refused("rule(0, 0, 9)", Camp::some, 12, x -> x.rule(0, 0, 9));
    }

    private static void ruleNone() {
        C.test("promise 18, '(365, 100, if there is none)': no line, of another KIND, one a day later");
        ClothForce x = ruled(0, 0, 0, "life 1 7;price 1 8;from 4 life 2 5;from 4 price 2 6;issue 3 9;");
        for (int kind : new int[] {0, 3}) {
            C.due("rule(kind, 0, 9999)", x.rule(kind, 0, 9999), 365);
            C.due("rule(kind, 1, 9999)", x.rule(kind, 1, 9999), 100);
        }
        C.due("rule(2, 0, 3)", x.rule(2, 0, 3), 365);
        C.due("rule(2, 1, 3)", x.rule(2, 1, 3), 100);
        C.due("rule(2, 0, 4)", x.rule(2, 0, 4), 5);
        C.due("rule(2, 1, 4)", x.rule(2, 1, 4), 6);
        C.due("life alone: the price", ruled(0, 0, 0, "life 0 1;").rule(0, 1, 0), 100);
        C.due("price alone: the life", ruled(0, 0, 0, "price 0 1;").rule(0, 0, 0), 365);
    }

    private static void ruleUpTo() {
        C.test("promise 18, 'from up to that day': that day, the day ahead of it, the first and the last day");
        ClothForce x = ruled(0, 0, 0, "life 0 1;from 1 life 0 2;from 9998 life 0 3;from 9999 life 0 4;");
        int[] days = {0, 1, 2, 9997, 9998, 9999};
        int[] due = {1, 2, 2, 2, 3, 4};
        for (int i = 0; i < days.length; i++) {
            C.due("rule(0, 0, " + days[i] + ")", x.rule(0, 0, days[i]), due[i]);
        }
    }

    private static void ruleLatest() {
        C.test("promise 18, 'the line with the latest from': not the last line, not the greatest number");
        ClothForce x = ruled(0, 0, 0, "from 5 price 0 50;from 9 price 0 10;from 2 price 0 99;price 0 70;");
        int[] days = {0, 1, 2, 4, 5, 8, 9, 10};
        int[] due = {70, 70, 99, 99, 50, 50, 10, 10};
        for (int i = 0; i < days.length; i++) {
            C.due("rule(0, 1, " + days[i] + ")", x.rule(0, 1, days[i]), due[i]);
        }
    }

    private static void ruleValues() {
        C.test("promise 18, 'LIFE, PRICE': the least and the greatest that a text can tell");
        ClothForce x = ruled(0, 0, 0, "life 0 1;life 3 9999;price 0 0;price 3 9999;");
        C.due("rule(0, 0, 0)", x.rule(0, 0, 0), 1);
        C.due("rule(3, 0, 0)", x.rule(3, 0, 0), 9999);
        C.due("rule(0, 1, 0)", x.rule(0, 1, 0), 0);
        C.due("rule(3, 1, 0)", x.rule(3, 1, 0), 9999);
    }
}
