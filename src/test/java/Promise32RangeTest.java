/** Promise 32: range. */
public final class Promise32RangeTest {
    public static void main(String[] args) {
        whatItWas();
        theLeastAndTheMost();
        none();
        noSuchRange();
        noSuchBird();
        behindMeasure();
        Check.end("Promise32RangeTest");
    }

    private static void whatItWas() {
        Run x = Run.of("bird a 0;bird b 1;bird c 2;");
        Check.same("at first none", x.range(1, 7), -1);
        Check.same("7", x.range(1, 9), 7);
        Check.same("9", x.range(1, 9), 9);
        Check.same("9 again", x.range(1, 0), 9);
        Check.same("of another one none", x.range(0, 1), -1);
        Check.same("of the last one none", x.range(2, 1), -1);
        Check.same("three have one", x.count(6), 3);
    }

    /** "0 .. 400". */
    private static void theLeastAndTheMost() {
        Run x = Run.of("bird a 0;");
        Check.same("range 0", x.range(0, 0), -1);
        Check.same("0 is one", x.count(6), 1);
        Check.same("range 400", x.range(0, 400), 0);
        Check.same("range 399", x.range(0, 399), 400);
        Check.same("range 1", x.range(0, 1), 399);
        Check.same("it was 1", x.range(0, 0), 1);
    }

    /** "(NONE: it has none): what it was (NONE: none)". */
    private static void none() {
        Run x = Run.of("bird a 0;bird b 1;");
        Check.same("none of none", x.range(0, -1), -1);
        Check.same("none", x.count(6), 0);
        x.range(0, 5);
        x.range(1, 6);
        Check.same("two", x.count(6), 2);
        Check.same("none any more", x.range(0, -1), 5);
        Check.same("one", x.count(6), 1);
        Check.same("none again", x.range(0, -1), -1);
        Check.same("a new one", x.range(0, 3), -1);
        Check.same("all of them can be undone", x.count(12), 6);
        Check.same("undone", x.undo(), 5);
        Check.same("it has none", x.count(6), 1);
    }

    private static void noSuchRange() {
        Run x = Run.of("bird a 0;bird b 1;");
        x.range(0, 7);
        for (int range : Check.beside(-1, 400)) {
            Check.leaves(x, "range " + range, -2, o -> o.range(0, range));
            Check.same("of one without, " + range, x.range(1, range), -2);
        }
        Check.same("it stays", x.range(0, 8), 7);
        Check.same("none came", x.range(1, 8), -1);
    }

    private static void noSuchBird() {
        Run x = Run.of("bird a 0;bird b 1;");
        x.range(1, 7);
        for (int bird : Check.beside(0, 1)) {
            Check.same("range of bird " + bird, x.range(bird, 5), -2);
            Check.same("none of bird " + bird, x.range(bird, -1), -2);
        }
        Check.leaves(x, "no such bird", -2, o -> o.range(2, 5));
        Check.same("one can be undone", x.count(12), 1);
        Check.same("of a new object", new Run().range(0, 5), -2);
        Run five = Run.of("bird a 0;bird b 1;bird c 2;bird d 3;bird e 4;");
        Check.same("the fifth one", five.range(4, 5), -1);
        Check.same("a sixth one", five.range(5, 5), -2);
    }

    /** By hand one without a place has a RANGE, too; measured ones are changed by hand. */
    private static void behindMeasure() {
        Run x = Run.of("bird a 0;bird b 1;place b 1 1 1;home 1 1 1 3;");
        x.range(0, 33);
        x.range(1, 44);
        x.measure(0);
        Check.same("by hand it stays", x.range(0, 1), 33);
        Check.same("measured", x.range(1, 1), 12);
    }
}
