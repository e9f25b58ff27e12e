import java.util.List;

/** Calls at the bounds that the document names, each on an object of its own. */
final class Bounds {
    static final int BAD = -1, STATE = -2, FULL = -3, NONE = -4;

    interface Ready {
        ClothForce make();
    }

    interface Call {
        long on(ClothForce x);
    }

    /** A call with one number left open. */
    interface CallWith {
        long on(ClothForce x, int v);
    }

    private final Checks checks;

    Bounds(Checks checks) {
        this.checks = checks;
    }

    /** All numbers from a least to a greatest answer at least 0 there, and those just outside and far off are BAD. */
    void between(String call, Ready ready, int least, int greatest, CallWith with) {
        for (int v : new int[] {least, least + 1, greatest - 1, greatest}) {
            if (v >= least && v <= greatest) {
                long answer = with.on(ready.make(), v);
                checks.due(call + " with " + v + " (answered " + answer + ") is taken", answer >= 0 ? 1 : 0, 1);
            }
        }
        outside(call, ready, least, greatest, with);
    }

    /** The numbers just below a least, just above a greatest, and those far off are BAD. */
    void outside(String call, Ready ready, int least, int greatest, CallWith with) {
        for (int v : new int[] {least - 1, greatest + 1, Integer.MIN_VALUE, Integer.MAX_VALUE}) {
            refused(call + " with " + v, ready, BAD, x -> with.on(x, v));
        }
    }

    /** A call with this answer changes nothing: all that the object answers behind it is what one without it answers. */
    void refused(String call, Ready ready, long due, Call refusedCall) {
        for (int part = 0; part < Look.PARTS; part++) {
            ClothForce x = ready.make();
            checks.due(call, refusedCall.on(x), due);
            same("behind " + call, Look.at(x, part), Look.at(ready.make(), part));
        }
    }

    /** Two objects answer alike. */
    void alike(String what, Ready one, Ready other) {
        for (int part = 0; part < Look.PARTS; part++) {
            same(what, Look.at(one.make(), part), Look.at(other.make(), part));
        }
    }

    /** Tells the first answer that differs. */
    private void same(String where, List<String> got, List<String> want) {
        for (int i = 0; i < Math.min(got.size(), want.size()); i++) {
            if (!got.get(i).equals(want.get(i))) {
                checks.due(where + ", '" + got.get(i) + "' is '" + want.get(i) + "'", 0, 1);
                return;
            }
        }
        checks.due(where + ", as many answers", got.size(), want.size());
    }
}
