/** Promise 38: distance. What DISTANCE is is told in section 4. */
public final class Promise38DistanceTest {
    public static void main(String[] args) {
        ofTwo();
        oneHasNoPlace();
        noSuchBirds();
        oneAheadOfTheOther();
        Check.end("Promise38DistanceTest");
    }

    private static void ofTwo() {
        Run x = Run.of("bird a 0;bird b 1;bird c 2;bird d 3;place a 0 0 0;place b 15 15 15;place c 1 1 1;place d 15 0 0;");
        int[][] due = {{0, 103, 6, 60}, {103, 0, 96, 84}, {6, 96, 0, 56}, {60, 84, 56, 0}};
        for (int one = 0; one < 4; one++) {
            for (int other = 0; other < 4; other++) {
                Check.same("distance " + one + " " + other, x.distance(one, other), due[one][other]);
            }
        }
        Run same = Run.of("bird a 0;bird b 0;place a 3 4 5;place b 3 4 5;");
        Check.same("of one place", same.distance(0, 1), 0);
    }

    /** "-2: one has no place". */
    private static void oneHasNoPlace() {
        Run x = Run.of("bird a 0;bird b 1;bird c 2;place b 0 0 0;home 1 1 1 1;");
        Check.leaves(x, "the first one", -2, o -> o.distance(0, 1));
        Check.same("the second one", x.distance(1, 0), -2);
        Check.same("both", x.distance(0, 2), -2);
        Check.same("one and the same", x.distance(2, 2), -2);
        Check.same("one and the same with a place", x.distance(1, 1), 0);
    }

    private static void noSuchBirds() {
        Run x = Run.of("bird a 0;bird b 1;place a 1 1 1;place b 2 2 2;");
        for (int bird : Check.beside(0, 1)) {
            Check.same("distance 0 " + bird, x.distance(0, bird), -1);
            Check.same("distance " + bird + " 1", x.distance(bird, 1), -1);
            Check.same("distance of both " + bird, x.distance(bird, bird), -1);
        }
        Check.leaves(x, "no such bird", -1, o -> o.distance(0, 2));
        Check.same("of a new object", new Run().distance(0, 0), -1);
    }

    /** "NONE goes ahead of -2". */
    private static void oneAheadOfTheOther() {
        Run x = Run.of("bird a 0;");
        for (int bird : Check.beside(0, 0)) {
            Check.same("no place and " + bird, x.distance(0, bird), -1);
            Check.same(bird + " and no place", x.distance(bird, 0), -1);
        }
    }
}
