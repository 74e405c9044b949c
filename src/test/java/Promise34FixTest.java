/** Promise 34: fix. What FIX is is told in section 4. */
public final class Promise34FixTest {
    public static void main(String[] args) {
        all();
        lessThanFour();
        noSuchWhat();
        oneAheadOfTheOther();
        Check.end("Promise34FixTest");
    }

    private static void all() {
        Run x = Run.of(Places.FIVE);
        x.measure(0);
        int[] due = {6, 7, 8, 20, 0};
        for (int what = 0; what < 5; what++) {
            Check.same("fix " + what, x.fix(what), due[what]);
        }
        x.range(0, x.range(0, 0) + 9);
        Oracle o = Oracle.of(Places.FIVE);
        o.measure(0);
        o.range(0, o.ranges[0] + 9);
        for (int what = 0; what < 5; what++) {
            Check.same("fix " + what, x.fix(what), o.fix(what));
        }
        Check.yes("a REST", x.fix(4) > 0);
    }

    /** "-2: there are less than four". */
    private static void lessThanFour() {
        for (int birds = 0; birds <= 5; birds++) {
            Run x = Run.of(Places.FIVE);
            for (int b = 0; b < birds; b++) {
                x.range(b, 50);
            }
            for (int what = 0; what < 5; what++) {
                Check.yes("fix of " + birds, birds < 4 ? x.fix(what) == -2 : x.fix(what) >= 0);
            }
        }
        Run x = Run.of(Places.FIVE);
        x.measure(0);
        x.range(2, -1);
        Check.same("four", x.fix(4), 0);
        x.range(0, -1);
        Check.leaves(x, "three", -2, o -> o.fix(4));
        x.undo();
        Check.same("four again", x.fix(4), 0);
        Run places = Places.ranged("bird a 0;bird b 1;bird c 2;bird d 3;bird e 4;place a 0 0 0;place b 15 0 1;"
            + "place c 0 15 2;place e 1 1 1;", 50, 50, 50, 50);
        Check.same("three have both", places.fix(0), -2);
        places.range(4, 50);
        Check.yes("four have both", places.fix(0) >= 0);
        Check.same("of a new object", new Run().fix(0), -2);
    }

    private static void noSuchWhat() {
        Run x = Run.of(Places.FIVE);
        x.measure(0);
        for (int what : Check.beside(0, 4)) {
            Check.same("fix " + what, x.fix(what), -1);
        }
        Check.leaves(x, "no such what", -1, o -> o.fix(5));
    }

    /** "NONE goes ahead of -2". */
    private static void oneAheadOfTheOther() {
        for (int what : Check.beside(0, 4)) {
            Check.same("of a new object", new Run().fix(what), -1);
        }
    }
}
