/** Promise 17: clear. */
public final class Promise17ClearTest {
    private static final String TWO = "bird a 3;bird b 9;heard a 20 7 0 1;heard b 40 7 0 9;";

    public static void main(String[] args) {
        withoutNoise();
        withoutTheOthers();
        withoutBoth();
        asTextsWithoutThem();
        overOnePeriod();
        notHeard();
        nothingIsChanged();
        noSuchOnes();
        Check.end("Promise17ClearTest");
    }

    private static void withoutNoise() {
        Run noisy = Run.of("bird a 3;heard a 20 7 0 1;noise 99;ratio 20;");
        Check.same("by noise it isn't acquired", noisy.hunt(0, 0, 1, 3), 0);
        Check.same("without noise", noisy.clear(0, 0, 0), 1);
        Check.same("without others alone", noisy.clear(0, 0, 1), 0);
        Check.same("without both", noisy.clear(0, 0, 2), 1);
    }

    private static void withoutTheOthers() {
        Run loud = Run.of(TWO);
        Check.same("by the other one it isn't acquired", loud.hunt(0, 0, 1, 3), 0);
        Check.same("without noise", loud.clear(0, 0, 0), 0);
        Check.same("without the other one", loud.clear(0, 0, 1), 1);
        Check.same("without both", loud.clear(0, 0, 2), 1);
        Run five = Run.of("bird a 3;bird b 9;bird c 4;bird d 5;bird e 6;heard a 20 7 0 1;heard b 40 7 0 9;"
            + "heard c 1 3 0 9;heard d 2 1 0 9;heard e 9 7 0 1;");
        Check.same("without four others", five.clear(0, 199, 1), 1);
        Check.same("the last one without four others", five.clear(4, 199, 1), 1);
        Check.same("the last one with them", five.clear(4, 199, 0), 0);
    }

    /** Both it must be, where noise is too much and the other one as well. */
    private static void withoutBoth() {
        Run x = Run.of(TWO + "noise 99;seed 3;ratio 30;");
        Check.same("without noise", x.clear(0, 0, 0), 0);
        Check.same("without the other one", x.clear(0, 0, 1), 0);
        Check.same("without both", x.clear(0, 0, 2), 1);
        Check.same("by a ratio of 99", Run.of(TWO + "ratio 99;").clear(0, 0, 2), 0);
        Check.same("faded", Run.of(TWO + "fade a 50;").clear(0, 50, 2), 0);
        Check.same("not yet faded", Run.of(TWO + "fade a 50;").clear(0, 49, 2), 1);
        Check.same("never acquired", Run.of("first 1;second 1;bird a 0;heard a 1 1 1 9;ratio 11;").clear(0, 0, 2), 0);
    }

    private static void asTextsWithoutThem() {
        Run x = Run.of(TWO + "noise 60;seed 3;ratio 20;drift b 1;");
        int[][] seen = new int[3][2];
        for (int bird = 0; bird < 2; bird++) {
            String alone = "bird a 3;bird b 9;drift b 1;ratio 20;"
                + (bird == 0 ? "heard a 20 7 0 1;" : "heard b 40 7 0 9;");
            for (int period = 0; period < 200; period += 11) {
                int[] due = {Run.of(TWO + "ratio 20;drift b 1;").hunt(bird, period, 1, 3),
                    Run.of(alone + "noise 60;seed 3;").hunt(bird, period, 1, 3),
                    Run.of(alone).hunt(bird, period, 1, 3)};
                for (int what = 0; what < 3; what++) {
                    seen[what][due[what]]++;
                    Check.same("clear " + bird + " " + period + " " + what, x.clear(bird, period, what), due[what]);
                }
            }
        }
        Check.yes("clear 0 is both", seen[0][0] > 0 && seen[0][1] > 0);
        Check.yes("clear 1 is both", seen[1][0] > 0 && seen[1][1] > 0);
    }

    /** "(m is 1)": what more periods would tell doesn't count. */
    private static void overOnePeriod() {
        boolean other = false;
        for (int seed = 0; seed < 60; seed++) {
            Run x = Run.of("bird a 3;heard a 20 7 0 1;noise 60;ratio 12;seed " + seed + ";");
            Check.same("one period", x.clear(0, 7, 1), x.hunt(0, 7, 1, 3));
            other |= x.hunt(0, 7, 1, 3) != x.hunt(0, 7, 2, 3);
        }
        Check.yes("two periods would tell another", other);
        Check.yes("the last one", Run.of("bird a 3;heard a 20 7 0 1;").clear(0, 199, 0) == 1);
    }

    private static void notHeard() {
        Run x = Run.of("bird a 3;bird b 9;heard b 40 7 0 9;");
        Check.same("without others nothing is heard", x.clear(0, 0, 1), 0);
        Check.same("without both", x.clear(0, 0, 2), 0);
        Run noise = Run.of("bird a 3;noise 50;ratio 10;");
        Check.same("by chance", noise.clear(0, 0, 1), 1);
        Check.same("not without noise", noise.clear(0, 0, 0), 0);
    }

    private static void nothingIsChanged() {
        Run x = Run.of(TWO + "noise 60;seed 3;");
        for (int what = 0; what < 3; what++) {
            int asked = what;
            Check.leaves(x, "clear " + what, Oracle.of(TWO + "noise 60;seed 3;").clear(0, 3, what),
                o -> o.clear(0, 3, asked));
            x.clear(0, 1, what);
            Check.same("sample behind it", x.sample(70, 0), Run.of(TWO + "noise 60;seed 3;").sample(70, 0));
        }
    }

    private static void noSuchOnes() {
        Run x = Run.of(TWO);
        for (int bird : Check.beside(0, 1)) {
            Check.same("clear of bird " + bird, x.clear(bird, 0, 2), -1);
        }
        for (int period : Check.beside(0, 199)) {
            Check.same("clear at " + period, x.clear(0, period, 2), -1);
        }
        for (int what : Check.beside(0, 2)) {
            Check.same("clear what " + what, x.clear(0, 0, what), -1);
        }
        Check.same("of a new object", new Run().clear(0, 0, 0), -1);
    }
}
