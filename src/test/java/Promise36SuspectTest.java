/** Promise 36: suspect. */
public final class Promise36SuspectTest {
    public static void main(String[] args) {
        theOneThatIsOff();
        theFirst();
        lessThanFive();
        Check.end("Promise36SuspectTest");
    }

    private static void theOneThatIsOff() {
        boolean[] seen = new boolean[5];
        for (int b = 0; b < 5; b++) {
            for (int off : new int[] {-19, 40, 100}) {
                Run x = Run.of(Places.FIVE);
                x.measure(0);
                x.range(b, x.range(b, 0) + off);
                int best = 0;
                for (int other = 1; other < 5; other++) {
                    best = x.fixWithout(other, 4) < x.fixWithout(best, 4) ? other : best;
                }
                Check.same("suspect " + b + " by " + off, x.suspect(), best);
                Check.same("REST without it", x.fixWithout(b, 4), 0);
                seen[best] = true;
            }
        }
        for (int b = 0; b < 5; b++) {
            Check.yes("suspect " + b + " is seen", seen[b]);
        }
        Run last = Run.of(Places.FIVE);
        last.measure(0);
        last.range(4, 300);
        Check.leaves(last, "the last one", 4, o -> o.suspect());
    }

    private static void theFirst() {
        Run x = Run.of(Places.FIVE);
        x.measure(0);
        Check.same("of all alike", x.suspect(), 0);
        String five = Places.CORNER + "bird e 4;place e 0 0 0;";
        Check.same("without any it is as much", Places.ranged(five, 9, 9, 9, 9, 9).suspect(), 0);
        Check.same("without the second or third", Places.ranged(five, 9, 40, 40, 9, 9).suspect(), 1);
        Check.same("without the fourth or fifth", Places.ranged(five, 9, 9, 9, 5, 13).suspect(), 3);
    }

    /** "-2: there are less than five that have both". */
    private static void lessThanFive() {
        for (int birds = 0; birds < 5; birds++) {
            Run x = Run.of(Places.FIVE);
            for (int b = 0; b < birds; b++) {
                x.range(b, 50);
            }
            Check.same("of " + birds, x.suspect(), -2);
        }
        Run x = Run.of(Places.FIVE);
        x.measure(0);
        x.range(0, -1);
        Check.leaves(x, "one has no range", -2, o -> o.suspect());
        Run place = Run.of(Places.FIVE.replace("place a 0 0 0;", ""));
        place.measure(0);
        place.range(0, 9);
        Check.same("one has no place", place.suspect(), -2);
        Check.same("of a new object", new Run().suspect(), -2);
    }
}
