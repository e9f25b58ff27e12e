import java.util.ArrayList;
import java.util.List;

/**
 * What can be seen of an object, in parts: each part is looked at on an object of its own, as an object is made for 512
 * calls and some of what it holds shows only by calls that change it.
 */
final class Look {
    static final int PARTS = 8;

    private static final int[] DAYS = {0, 1, 2, 3, 5, 6, 8, 9, 9999};
    private static final int[] DIGITS = {0, 1, 0x10, 0x100, 0x1000, 0x112, 0x321};

    private final ClothForce x;
    private final List<String> seen = new ArrayList<>();

    private Look(ClothForce x) {
        this.x = x;
    }

    /** All answers of a part, each with its call. */
    static List<String> at(ClothForce x, int part) {
        Look look = new Look(x);
        switch (part) {
            case 0: look.bodies(); break;
            case 1: look.measures(); break;
            case 2: look.sizes(); break;
            case 3: look.regulations(); break;
            case 4: look.tape(); break;
            case 5: look.pieces(); break;
            case 6: look.stores(); break;
            default: look.sheets(); break;
        }
        return look.seen;
    }

    private void see(long answer, String call, int... numbers) {
        StringBuilder text = new StringBuilder(call);
        for (int n : numbers) {
            text.append(' ').append(n);
        }
        seen.add(text.append(": ").append(answer).toString());
    }

    private void bodies() {
        for (int what = 0; what <= 12; what++) {
            see(x.count(what), "count", what);
        }
        for (int b = 0; b < x.count(0); b++) {
            for (int what = 0; what <= 23; what++) {
                if (what < 8 || what >= 10 && what <= 13 || what >= 20) {
                    see(x.told(b, what), "told", b, what);
                }
            }
        }
        for (int l = 0; l < 6; l++) {
            for (int what = 0; what < 4; what++) {
                see(x.lot(l, what), "lot", l, what);
            }
        }
        see(x.worst(), "worst");
        see(x.body(1, 1, 1), "body");
        see(x.day(9999), "day", 9999);
    }

    private void measures() {
        int bodies = Math.min(3, x.count(0));
        for (int b = 0; b < bodies; b++) {
            for (int what = 0; what < 3; what++) {
                for (int day : DAYS) {
                    see(x.known(b, what, 9999, day), "known", b, what, 9999, day);
                    see(x.known(b, what, day, 9999), "known", b, what, day, 9999);
                    see(x.known(b, what, 3, day), "known", b, what, 3, day);
                }
            }
        }
        see(x.measure(0, 0, 1, 0), "measure");
        see(x.count(8), "count", 8);
    }

    private void sizes() {
        for (int s = 0; s < x.count(1); s++) {
            for (int b = 0; b < Math.min(3, x.count(0)); b++) {
                see(x.fits(s, b, 0), "fits", s, b, 0);
                see(x.fits(s, b, 50), "fits", s, b, 50);
            }
        }
        for (int kind = 0; kind < 4; kind++) {
            for (int what = 0; what < 3; what++) {
                see(x.sized(0, kind, 5, what), "sized", 0, kind, 5, what);
                see(x.sized(2, kind, 5, what), "sized", 2, kind, 5, what);
                see(x.chosen(kind, 1, what), "chosen", kind, 1, what);
                see(x.chosen(kind, 10, what), "chosen", kind, 10, what);
            }
        }
        see(x.size(0, 0, 1, 0, 1, 0, 1), "size");
    }

    private void regulations() {
        see(x.count(7), "count", 7);
        for (int day : DAYS) {
            for (int kind = 0; kind < 4; kind++) {
                for (int b = 0; b < Math.min(2, x.count(0)); b++) {
                    see(x.due(b, kind, day), "due", b, kind, day);
                    see(x.why(b, kind, day), "why", b, kind, day);
                }
                see(x.rule(kind, 0, day), "rule", kind, 0, day);
                see(x.rule(kind, 1, day), "rule", kind, 1, day);
            }
        }
    }

    private void tape() {
        see(x.count(11), "count", 11);
        see(x.feed(0x2020202020202020L), "feed");
        see(x.text(), "text");
        for (int kind = 0; kind < 4; kind++) {
            see(x.rule(kind, 0, 9), "rule", kind, 0, 9);
            see(x.rule(kind, 1, 9), "rule", kind, 1, 9);
        }
        see(x.fault(), "fault behind text");
        see(x.count(11), "count", 11);
    }

    private void pieces() {
        for (int p = 0; p < x.count(3); p++) {
            for (int what = 0; what <= 8; what++) {
                see(x.pieceOf(p, what), "pieceOf", p, what);
            }
        }
        see(x.piece(0, 0, 0, 0), "piece");
    }

    private void stores() {
        for (int kind = 0; kind < 4; kind++) {
            for (int s = 0; s < x.count(2); s++) {
                see(x.stock(s, kind), "stock", s, kind);
            }
            for (int digits : DIGITS) {
                see(x.order(kind, digits), "order", kind, digits);
                see(x.ordered(kind, digits, 0, 1), "ordered", kind, digits, 0, 1);
                see(x.ordered(kind, digits, 2, 0), "ordered", kind, digits, 2, 0);
            }
            for (int what = 0; what <= 12; what++) {
                see(x.parade(kind, 4, what), "parade", kind, 4, what);
            }
        }
        for (int s = 0; s < 4; s++) {
            for (int t = 0; t < s; t++) {
                see(x.road(s, t, 1), "road", s, t);
            }
        }
        see(x.store(), "store");
    }

    private void sheets() {
        see(x.fault(), "fault");
        for (int k = 0; k < 4; k++) {
            for (int lane = 0; lane < 3; lane++) {
                see(x.scan(k, lane, 0), "scan", k, lane, 0);
                see(x.scan(k, lane, 3), "scan", k, lane, 3);
                for (int b = 0; b < Math.min(3, x.count(0)); b++) {
                    for (int what = 3; what <= 5; what++) {
                        see(x.told(b, what), "told", b, what);
                    }
                }
            }
        }
        for (int k = 0; k < 4; k++) {
            for (int i = -1; i <= 60; i += i < 12 ? 1 : 12) {
                see(x.lay(k, i, 0), "lay", k, i);
            }
        }
    }
}
