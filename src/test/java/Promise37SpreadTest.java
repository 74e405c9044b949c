/** Promise 37: spread. */
public final class Promise37SpreadTest {
    public static void main(String[] args) {
        notAboveTheLimit();
        allAndNone();
        asFix();
        wordForWord();
        lessThanFour();
        noSuchLimit();
        Check.end("Promise37SpreadTest");
    }

    /** "not above a limit": those that have just as much count. */
    private static void notAboveTheLimit() {
        Run x = Places.ranged(Places.CORNER, 0, 0, 0, 0);
        Check.same("the corner alone", x.spread(0), 1);
        // At a way of 4 each has 4 too much, at one of 5 each has 5: three points each.
        Check.same("below four times 16", x.spread(63), 1);
        Check.same("four times 16", x.spread(64), 4);
        Check.same("below four times 25", x.spread(99), 4);
        Check.same("four times 25", x.spread(100), 7);
        // A way of 6: one point.
        Check.same("below four times 36", x.spread(143), 7);
        Check.same("four times 36", x.spread(144), 8);
    }

    private static void allAndNone() {
        Check.same("all points", Places.ranged(Places.CORNER, 103, 103, 103, 103).spread(9999), 4096);
        // Without any REST all but those of a way below 4.
        Check.same("a clock of 99 at most", Places.ranged(Places.CORNER, 103, 103, 103, 103).spread(0), 4095);
        Check.same("the whole way", Places.ranged(Places.CORNER, 99, 99, 99, 99).spread(0),
            4096 - farther(99));
        Check.same("too far", Places.ranged(Places.CORNER, 400, 400, 400, 400).spread(9999), 0);
        // 50 left of each by the last point and clock: 252 less 103 less 99.
        Check.same("just too far", Places.ranged(Places.CORNER, 253, 253, 253, 253).spread(9999), 0);
        Check.same("limit 9999", Places.ranged(Places.CORNER, 252, 252, 252, 252).spread(9999), 0);
        Check.same("four times 49 times 49", Places.ranged(Places.CORNER, 251, 251, 251, 251).spread(9604), 1);
    }

    private static int farther(int way) {
        int many = 0;
        for (int x = 0; x < 16; x++) {
            for (int y = 0; y < 16; y++) {
                for (int z = 0; z < 16; z++) {
                    many += Places.distance(x, y, z) > way ? 1 : 0;
                }
            }
        }
        return many;
    }

    private static void asFix() {
        Run x = Run.of(Places.FIVE);
        x.measure(3);
        int rest = x.fix(4);
        Check.yes("a REST", rest > 0);
        Check.yes("by that of the FIX", x.spread(rest) >= 1);
        Check.same("by less", x.spread(rest - 1), 0);
    }

    private static void wordForWord() {
        Run x = Run.of(Places.FIVE + "seed 4;");
        Oracle o = Oracle.of(Places.FIVE + "seed 4;");
        x.measure(5);
        o.measure(5);
        for (int limit : new int[] {0, 1, 9, 40, 77, 400, 2500, 9999}) {
            Check.same("spread " + limit, x.spread(limit), o.spread(limit));
        }
    }

    private static void lessThanFour() {
        for (int birds = 0; birds <= 5; birds++) {
            Run x = Run.of(Places.FIVE);
            for (int b = 0; b < birds; b++) {
                x.range(b, 50);
            }
            Check.yes("spread of " + birds, birds < 4 ? x.spread(9999) == -2 : x.spread(9999) >= 0);
        }
        Run x = Run.of(Places.FIVE.replace("place a 0 0 0;", ""));
        x.measure(0);
        x.range(0, 9);
        Check.yes("four have both", x.spread(0) >= 1);
        x.range(1, -1);
        Check.leaves(x, "three have both", -2, o -> o.spread(9));
    }

    /** "NONE: no such limit", ahead of -2. */
    private static void noSuchLimit() {
        Run x = Run.of(Places.FIVE);
        x.measure(0);
        Check.yes("limit 0", x.spread(0) >= 1);
        Check.yes("limit 9999", x.spread(9999) >= 1);
        for (int limit : Check.beside(0, 9999)) {
            Check.same("limit " + limit, x.spread(limit), -1);
            Check.same("limit " + limit + " of none", new Run().spread(limit), -1);
        }
        Check.leaves(x, "no such limit", -1, o -> o.spread(10000));
        Check.same("of none", new Run().spread(0), -2);
    }
}
