/** Promise 11: quiet. */
public final class Promise11QuietTest {
    public static void main(String[] args) {
        withoutAny();
        theLeastGreatest();
        theFirst();
        oneOfTheSameDelay();
        Check.end("Promise11QuietTest");
    }

    /** "0 without any". */
    private static void withoutAny() {
        Check.same("of a new object", new Run().quiet(), 0);
        Check.same("without birds", Run.of("first 3;noise 4;").quiet(), 0);
    }

    /** By what worst() tells of a bird more. */
    private static int byWorst(String text, int birds, boolean[] seen) {
        int best = -1;
        int least = 99;
        int alike = 0;
        for (int delay = 0; delay <= 30; delay++) {
            Run x = Run.of(text + "bird zz " + delay + ";");
            int greatest = 0;
            for (int b = 0; b < birds; b++) {
                greatest = Math.max(greatest, x.worst(birds, b));
            }
            if (greatest < least) {
                least = greatest;
                best = delay;
                alike = 0;
            }
            alike += greatest == least ? 1 : 0;
        }
        seen[0] |= best > 1;
        seen[1] |= best == 30;
        seen[2] |= alike > 1;
        return best;
    }

    private static void theLeastGreatest() {
        String[] texts = {"bird a 0;", "bird a 5;bird b 9;", "first 7;second 11;bird a 0;bird b 1;bird c 2;",
            "first 21;second 9;bird a 0;", "first 3;second 13;bird a 4;bird b 4;bird c 20;bird d 30;",
            "first 1;second 5;bird a 3;", "first 18;second 3;bird a 1;bird b 6;", "first 9;second 23;bird a 2;bird b 17;",
            "first 15;second 3;bird a 0;bird b 8;bird c 9;bird d 21;", "first 17;second 10;bird a 12;"};
        int[] birds = {1, 2, 3, 1, 4, 1, 2, 2, 4, 1};
        boolean[] seen = new boolean[3];
        for (int k = 0; k < texts.length; k++) {
            Check.same("quiet of " + texts[k], Run.of(texts[k]).quiet(), byWorst(texts[k], birds[k], seen));
        }
        for (int first = 3; first <= 31; first += 7) {
            for (int second = 6; second <= 31; second += 6) {
                String text = "first " + first + ";second " + second + ";bird a 3;bird b 20;bird c 11;";
                Check.same("quiet of " + text, Run.of(text).quiet(), byWorst(text, 3, seen));
            }
        }
        Check.yes("some are neither of the first", seen[0]);
        Check.yes("some are the first of several", seen[2]);
        // The last of all delays is the answer, too.
        String last = "first 3;second 5;bird a 27;bird b 19;";
        Check.same("the last delay", byWorst(last, 2, seen), 30);
        Check.same("quiet of the last", Run.of(last).quiet(), 30);
        Check.yes("30 is seen", seen[1]);
        // Five told: a sixth one can still be thought of.
        String five = "bird a 0;bird b 1;bird c 2;bird d 3;bird e 4;";
        Check.same("quiet beside five", Run.of(five).quiet(), Oracle.of(five).quiet());
    }

    private static void theFirst() {
        // All codes of ones: each delay is as bad as the others.
        Check.same("all alike", Run.of("first 1;second 1;bird a 7;").quiet(), 0);
        // All are 31 alike by some steps.
        Check.same("all alike by steps", Run.of("first 1;second 5;bird a 0;").quiet(), 0);
    }

    /** With one of its own delay the greatest is 31, by 0 steps. */
    private static void oneOfTheSameDelay() {
        Check.same("quiet beside delay 0", Run.of("bird a 0;").quiet(), 1);
        Check.same("quiet beside delays 0, 1", Run.of("bird a 0;bird b 1;").quiet(), 2);
        Check.same("quiet beside delay 1", Run.of("bird a 1;").quiet(), 0);
    }
}
