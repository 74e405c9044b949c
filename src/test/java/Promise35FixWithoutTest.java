/** Promise 35: fixWithout. */
public final class Promise35FixWithoutTest {
    public static void main(String[] args) {
        theSameWithoutABird();
        lessThanFourAreLeft();
        noPlaceOrNoRange();
        noSuchOnes();
        oneAheadOfTheOther();
        Check.end("Promise35FixWithoutTest");
    }

    private static void theSameWithoutABird() {
        for (int bird = 0; bird < 5; bird++) {
            Run x = Run.of(Places.FIVE);
            x.measure(0);
            x.range(bird, 200);
            Check.yes("all five", x.fix(4) > 0);
            int[] due = {6, 7, 8, 20, 0};
            for (int what = 0; what < 5; what++) {
                Check.same("without " + bird + ": " + what, x.fixWithout(bird, what), due[what]);
            }
            int other = (bird + 1) % 5;
            Check.yes("without another", x.fixWithout(other, 4) > 0);
            // As if it had no range.
            Run less = x.copy();
            less.range(other, -1);
            for (int what = 0; what < 5; what++) {
                Check.same("as without its range " + what, x.fixWithout(other, what), less.fix(what));
            }
            String was = x.whole();
            x.fixWithout(0, 0);
            Check.same("it has its range yet", x.whole(), was);
        }
    }

    private static void lessThanFourAreLeft() {
        Run x = Run.of(Places.FIVE);
        x.measure(0);
        Check.same("four are left", x.fixWithout(0, 4), 0);
        x.range(4, -1);
        Check.same("four have both", x.fix(4), 0);
        for (int bird = 0; bird < 4; bird++) {
            Check.same("three are left", x.fixWithout(bird, 4), -2);
        }
        Check.same("less than three", Places.ranged(Places.FIVE, 1, 2).fixWithout(0, 0), -2);
    }

    /** "-2, too: it has no place or no RANGE". */
    private static void noPlaceOrNoRange() {
        Run range = Run.of(Places.FIVE);
        range.measure(0);
        range.range(4, -1);
        Check.same("four have both", range.fix(4), 0);
        Check.leaves(range, "it has no range", -2, o -> o.fixWithout(4, 4));
        Run place = Run.of(Places.FIVE.replace("place e 15 15 12;", ""));
        place.measure(0);
        place.range(4, 30);
        Check.same("four have both", place.fix(4), 0);
        Check.same("it has no place", place.fixWithout(4, 4), -2);
        place.range(4, -1);
        Check.same("it has neither", place.fixWithout(4, 4), -2);
    }

    private static void noSuchOnes() {
        Run x = Run.of(Places.FIVE);
        x.measure(0);
        for (int bird : Check.beside(0, 4)) {
            Check.same("without bird " + bird, x.fixWithout(bird, 4), -1);
        }
        for (int what : Check.beside(0, 4)) {
            Check.same("what " + what, x.fixWithout(0, what), -1);
        }
        Check.leaves(x, "no such bird", -1, o -> o.fixWithout(5, 0));
        Check.same("of a new object", new Run().fixWithout(0, 0), -1);
    }

    /** "NONE goes ahead of -2". */
    private static void oneAheadOfTheOther() {
        Run x = Run.of("bird a 0;bird b 0;place b 1 1 1;");
        x.range(1, 5);
        for (int what : Check.beside(0, 4)) {
            Check.same("no place, what " + what, x.fixWithout(0, what), -1);
            Check.same("less than four, what " + what, x.fixWithout(1, what), -1);
        }
        for (int bird : Check.beside(0, 1)) {
            Check.same("less than four, bird " + bird, x.fixWithout(bird, 0), -1);
        }
        Check.same("less than four", x.fixWithout(1, 0), -2);
    }
}
