/** Promise 18: limit. */
public final class Promise18LimitTest {
    public static void main(String[] args) {
        theLeast();
        theFirstIsNone();
        byAllItIs();
        theLastIs99();
        inPlaceOfThatTold();
        noSuchOnes();
        Check.end("Promise18LimitTest");
    }

    /** By texts with that noise. */
    private static int limit(String text, int bird, int period) {
        for (int noise = 0; noise <= 99; noise += 9) {
            if (Run.of(text + "noise " + noise + ";").hunt(bird, period, 1, 3) == 0) {
                return noise;
            }
        }
        return -2;
    }

    private static void theLeast() {
        int[] seen = new int[13];
        for (int strength = 1; strength <= 9; strength++) {
            for (int seed = 0; seed < 16; seed++) {
                String text = "bird a 3;heard a 20 7 0 " + strength + ";bird b 9;heard b 50 3 1 1;ratio 30;seed " + seed
                    + ";";
                int due = limit(text, 0, 9);
                seen[due == -2 ? 12 : due / 9]++;
                Check.same("limit of " + strength + " by seed " + seed, Run.of(text + "noise 50;").limit(0, 9), due);
            }
        }
        int many = 0;
        for (int k = 0; k <= 12; k++) {
            many += seen[k] > 0 ? 1 : 0;
        }
        Check.yes("-2 is seen", seen[12] > 0);
        Check.yes("many are seen", many >= 7);
    }

    /** Without any noise it isn't acquired. */
    private static void theFirstIsNone() {
        Check.same("not heard", Run.of("bird a 3;").limit(0, 9), 0);
        Check.same("not heard, by noise", Run.of("bird a 3;noise 99;ratio 10;").limit(0, 9), 0);
        Check.same("faded", Run.of("bird a 3;heard a 1 1 1 9;fade a 9;").limit(0, 9), 0);
        Check.same("the other one is too loud", Run.of("bird a 3;bird b 9;heard a 20 7 0 1;heard b 40 7 0 9;")
            .limit(0, 9), 0);
    }

    private static void byAllItIs() {
        Check.same("by ratio 10 all is", Run.of("bird a 3;heard a 1 1 1 9;ratio 10;").limit(0, 199), -2);
        Check.same("by ratio 10 from 0 on", Run.of("bird a 3;heard a 1 1 1 1;ratio 10;noise 3;").limit(0, 0), -2);
    }

    /** "0, 9, 18, .. 99": by 90 it is acquired, by 99 not any more. */
    private static void theLastIs99() {
        boolean seen = false;
        for (int seed = 0; seed < 400 && !seen; seed++) {
            String text = "bird a 3;heard a 20 7 0 4;ratio 20;seed " + seed + ";";
            if (limit(text, 0, 9) == 99) {
                seen = true;
                Check.same("by seed " + seed, Run.of(text).limit(0, 9), 99);
                Check.same("by 90 it is", Run.of(text + "noise 90;").hunt(0, 9, 1, 3), 1);
                Check.same("by 99 it isn't", Run.of(text + "noise 99;").hunt(0, 9, 1, 3), 0);
            }
        }
        Check.yes("99 is seen", seen);
    }

    /** Whatever noise is told; and it stays told. */
    private static void inPlaceOfThatTold() {
        String text = "bird a 3;heard a 20 7 0 2;ratio 30;seed 5;";
        int due = limit(text, 0, 9);
        Check.yes("there is one", due > 0);
        for (int noise : new int[] {0, 1, due - 1, due, 99}) {
            Run x = Run.of(text + "noise " + noise + ";");
            Check.leaves(x, "limit by noise " + noise, due, o -> o.limit(0, 9));
            Check.same("noise told", x.count(7), noise);
            x.limit(0, 1);
            Check.same("sample behind it", x.sample(70, 0), Run.of(text + "noise " + noise + ";").sample(70, 0));
        }
    }

    private static void noSuchOnes() {
        Run x = Run.of("bird a 3;heard a 20 7 0 2;bird b 1;");
        for (int bird : Check.beside(0, 1)) {
            Check.same("limit of bird " + bird, x.limit(bird, 0), -1);
        }
        for (int period : Check.beside(0, 199)) {
            Check.same("limit at " + period, x.limit(0, period), -1);
            Check.same("limit of one not heard at " + period, x.limit(1, period), -1);
        }
        Check.yes("at 199", x.limit(0, 199) != -1);
        Check.leaves(x, "no such period", -1, o -> o.limit(0, 200));
        Check.same("of a new object", new Run().limit(0, 0), -1);
    }
}
