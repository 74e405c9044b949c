/** Promises 15 to 21: hunts, and what is told by them. */
public final class HuntTest {
    private static final int[] WRONG = {-1, 200, Integer.MIN_VALUE, Integer.MAX_VALUE};
    private static final String MANY = "bird a 0;bird b 3;bird c 7;heard a 10 7 0 3;heard b 40 3 5 4;"
        + "heard c 5 12 9 2;";

    public static void main(String[] args) {
        hunts();
        ties();
        acquired();
        wrongHunts();
        listens();
        clears();
        limits();
        chances();
        clearests();
        tunes();
        Check.end("HuntTest");
    }

    /** A hunt by the answers of sum() alone. */
    private static void huntBySums(BirdCodes x, int bird, int period, int m, int ratio) {
        long[] powers = new long[930];
        for (int cell = 0; cell < 930; cell++) {
            for (int p = period; p < period + m; p++) {
                powers[cell] += x.sum(bird, p, cell, 0, 2);
            }
        }
        int peak = 0;
        for (int cell = 0; cell < 930; cell++) {
            peak = powers[cell] > powers[peak] ? cell : peak;
        }
        long rival = 0;
        for (int cell = 0; cell < 930; cell++) {
            int apart = Math.abs(cell % 62 - peak % 62);
            if (apart > 2 && apart < 60) {
                rival = Math.max(rival, powers[cell]);
            }
        }
        String call = "hunt " + bird + " " + period + " " + m + " ";
        Check.same(call + 0, x.hunt(bird, period, m, 0), peak);
        Check.same(call + 1, x.hunt(bird, period, m, 1), powers[peak]);
        Check.same(call + 2, x.hunt(bird, period, m, 2), rival);
        Check.same(call + 3, x.hunt(bird, period, m, 3),
            powers[peak] > 0 && 10 * powers[peak] >= ratio * rival ? 1 : 0);
    }

    private static void hunts() {
        BirdCodes x = Check.of(MANY + "noise 40;seed 7;drift a 1;send b 1 2;");
        for (int m = 1; m <= 4; m++) {
            huntBySums(x, 0, 17 * m, m, 15);
            huntBySums(x, 1, 200 - m, m, 15);
            huntBySums(x, 2, 0, m, 15);
        }
        // Near 0 and 61 the ways go around.
        for (int start : new int[] {0, 1, 2, 59, 60, 61}) {
            huntBySums(Check.of("bird a 4;heard a " + start + " 5 0 2;noise 9;ratio 30;"), 0, 3, 1, 30);
        }
        // The bird is found where it is.
        for (int shift = 0; shift < 15; shift++) {
            BirdCodes one = Check.of("bird a 4;heard a 33 " + shift + " 11 9;");
            Check.same("peak by shift " + shift, one.hunt(0, 7, 1, 0), 62 * shift + 33);
            Check.same("acquired by shift " + shift, one.hunt(0, 7, 1, 3), 1);
        }
    }

    private static void ties() {
        // Nothing heard: all cells are 0, the first one is the peak, and it isn't acquired.
        BirdCodes x = Check.of("bird a 0;");
        for (int what = 0; what < 4; what++) {
            Check.same("hunt of nothing " + what, x.hunt(0, 100, 4, what), 0);
        }
        // A code of ones alone is as strong by each start: the first start, a rival as strong.
        BirdCodes ones = Check.of("first 1;second 1;bird a 0;heard a 30 9 0 1;");
        Check.same("peak of ones", ones.hunt(0, 0, 1, 0), 62 * 9);
        Check.same("rival of ones", ones.hunt(0, 0, 1, 2), ones.hunt(0, 0, 1, 1));
        Check.same("ones not acquired", ones.hunt(0, 0, 1, 3), 0);
        BirdCodes ten = Check.of("first 1;second 1;bird a 0;heard a 30 9 0 1;ratio 10;");
        Check.same("ones acquired by ratio 10", ten.hunt(0, 0, 1, 3), 1);
        BirdCodes eleven = Check.of("first 1;second 1;bird a 0;heard a 30 9 0 1;ratio 11;");
        Check.same("ones not by 11", eleven.hunt(0, 0, 1, 3), 0);
    }

    private static void acquired() {
        int[] seen = new int[2];
        for (int ratio = 10; ratio <= 99; ratio += 3) {
            BirdCodes x = Check.of(MANY + "noise 20;ratio " + ratio + ";");
            long power = x.hunt(0, 5, 1, 1);
            long rival = x.hunt(0, 5, 1, 2);
            int due = 10 * power >= ratio * rival ? 1 : 0;
            seen[due]++;
            Check.same("acquired by ratio " + ratio, x.hunt(0, 5, 1, 3), due);
        }
        Check.same("both are seen", Math.min(seen[0], seen[1]) > 0 ? 1 : 0, 1);
    }

    private static void wrongHunts() {
        BirdCodes x = Check.of(MANY);
        for (int m = 1; m <= 4; m++) {
            Check.same("last of " + m, x.hunt(0, 200 - m, m, 3), 1);
            Check.same("beyond, of " + m, x.hunt(0, 201 - m, m, 0), -1);
        }
        Check.same("bird 3", x.hunt(3, 0, 1, 0), -1);
        Check.same("what 4", x.hunt(0, 0, 1, 4), -1);
        Check.same("m 0", x.hunt(0, 0, 0, 0), -1);
        Check.same("m 5", x.hunt(0, 0, 5, 0), -1);
        for (int wrong : WRONG) {
            Check.same("hunt bird " + wrong, x.hunt(wrong, 0, 1, 0), -1);
            Check.same("hunt period " + wrong, x.hunt(0, wrong, 1, 0), -1);
            Check.same("hunt m " + wrong, x.hunt(0, 0, wrong, 0), -1);
            Check.same("hunt what " + wrong, x.hunt(0, 0, 1, wrong), -1);
            Check.same("listen bird " + wrong, x.listen(wrong, 0), -1);
            Check.same("listen period " + wrong, x.listen(0, wrong), -1);
            Check.same("clear bird " + wrong, x.clear(wrong, 0, 0), -1);
            Check.same("clear period " + wrong, x.clear(0, wrong, 0), -1);
            Check.same("clear what " + wrong, x.clear(0, 0, wrong), -1);
            Check.same("limit bird " + wrong, x.limit(wrong, 0), -1);
            Check.same("limit period " + wrong, x.limit(0, wrong), -1);
            Check.same("chance bird " + wrong, x.chance(wrong, 0, 1, 0), -1);
            Check.same("chance period " + wrong, x.chance(0, wrong, 1, 0), -1);
            Check.same("chance n " + wrong, x.chance(0, 0, wrong, 0), -1);
            Check.same("chance what " + wrong, x.chance(0, 0, 1, wrong), -1);
            Check.same("clearest bird " + wrong, x.clearest(wrong, 0, 1), -1);
            Check.same("clearest period " + wrong, x.clearest(0, wrong, 1), -1);
            Check.same("clearest n " + wrong, x.clearest(0, 0, wrong), -1);
            Check.same("tune bird " + wrong, x.tune(wrong, 0, 0), -1);
            Check.same("tune period " + wrong, x.tune(0, wrong, 0), -1);
            Check.same("tune start " + wrong, x.tune(0, 0, wrong), -1);
        }
        Check.same("clear what 3", x.clear(0, 0, 3), -1);
        Check.same("chance n 0", x.chance(0, 0, 0, 0), -1);
        Check.same("chance n 11", x.chance(0, 0, 11, 0), -1);
        Check.same("chance what 2", x.chance(0, 0, 1, 2), -1);
        Check.same("clearest n 0", x.clearest(0, 0, 0), -1);
        Check.same("clearest n 9", x.clearest(0, 0, 9), -1);
        Check.same("clearest beyond", x.clearest(0, 193, 8), -1);
        Check.same("tune start 62", x.tune(0, 0, 62), -1);
        BirdCodes unheard = Check.of("bird a 0;");
        Check.same("NONE ahead of -2", unheard.listen(0, 200), -1);
    }

    /** By hunts of 1 to 4 periods. */
    private static int listened(BirdCodes x, int bird, int period) {
        for (int m = 1; m <= 4 && period + m <= 200; m++) {
            int start = x.bird(bird, 1) + (x.bird(bird, 5) > 0 ? period / x.bird(bird, 5) : 0);
            if (x.hunt(bird, period, m, 3) == 1
                    && x.hunt(bird, period, m, 0) == 62 * x.bird(bird, 2) + start % 62) {
                return m;
            }
        }
        return -3;
    }

    private static void listens() {
        int[] seen = new int[8];
        for (int noise = 0; noise <= 99; noise += 3) {
            BirdCodes x = Check.of("bird a 3;bird b 8;heard a 55 6 0 1;heard b 2 9 0 1;noise " + noise
                + ";seed 31;drift a 7;ratio 12;");
            for (int period : new int[] {0, 60, 196, 197, 198, 199}) {
                int due = listened(x, 0, period);
                seen[due + 3]++;
                Check.same("listen by " + noise + " at " + period, x.listen(0, period), due);
            }
        }
        for (int m : new int[] {-3, 1, 2, 3}) {
            Check.same("listen " + m + " is seen", seen[m + 3] > 0 ? 1 : 0, 1);
        }
        Check.same("not heard", Check.of("bird a 0;noise 9;").listen(0, 0), -2);
        Check.same("at once", Check.of("bird a 0;heard a 0 7 0 9;").listen(0, 199), 1);
        // By m its own periods drift: the start is that of the first period.
        Check.same("faded", Check.of("bird a 0;heard a 0 7 0 9;fade a 5;").listen(0, 5), -3);
        Check.same("not yet faded", Check.of("bird a 0;heard a 0 7 0 9;fade a 5;").listen(0, 4), 1);
        // The start goes around: 61 and 1.
        Check.same("around", Check.of("bird a 0;heard a 61 7 0 9;drift a 5;").listen(0, 5), 1);
    }

    private static void clears() {
        String two = "bird a 3;bird b 9;heard a 20 7 0 1;heard b 40 7 0 9;";
        BirdCodes x = Check.of(two + "noise 60;seed 3;ratio 20;");
        for (int bird = 0; bird < 2; bird++) {
            int other = 1 - bird;
            String alone = "bird a 3;bird b 9;" + (bird == 0 ? "heard a 20 7 0 1;" : "heard b 40 7 0 9;");
            for (int period = 0; period < 200; period += 33) {
                Check.same("clear without noise " + bird, x.clear(bird, period, 0),
                    Check.of(two + "ratio 20;").hunt(bird, period, 1, 3));
                Check.same("clear without " + other, x.clear(bird, period, 1),
                    Check.of(alone + "noise 60;seed 3;ratio 20;").hunt(bird, period, 1, 3));
                Check.same("clear without both " + bird, x.clear(bird, period, 2),
                    Check.of(alone + "ratio 20;").hunt(bird, period, 1, 3));
            }
        }
        BirdCodes loud = Check.of("bird a 3;bird b 9;heard a 20 7 0 1;heard b 40 7 0 9;");
        Check.same("the other one is too loud", loud.clear(0, 0, 0), 0);
        Check.same("alone it is clear", loud.clear(0, 0, 1), 1);
        BirdCodes noisy = Check.of("bird a 3;heard a 20 7 0 1;noise 99;ratio 99;");
        Check.same("noisy", noisy.clear(0, 0, 1), 0);
        Check.same("without noise", Check.of("bird a 3;heard a 20 7 0 1;noise 99;").clear(0, 0, 0), 1);
        Check.same("not heard", Check.of("bird a 3;bird b 9;heard b 40 7 0 9;").clear(0, 0, 1), 0);
        // The samples as told are heard again behind it.
        int told = x.sample(70, 0);
        x.clear(0, 1, 2);
        Check.same("sample behind clear", x.sample(70, 0), told);
    }

    private static void limits() {
        int[] seen = new int[12];
        for (int strength = 1; strength <= 9; strength++) {
            for (int seed = 0; seed < 4; seed++) {
                String text = "bird a 3;heard a 20 7 0 " + strength + ";ratio 30;seed " + seed + ";";
                int due = -2;
                for (int noise = 0; noise <= 99 && due == -2; noise += 9) {
                    due = Check.of(text + "noise " + noise + ";").hunt(0, 9, 1, 3) == 1 ? -2 : noise;
                }
                seen[due == -2 ? 0 : due / 9]++;
                Check.same("limit of " + strength, Check.of(text + "noise 50;").limit(0, 9), due);
            }
        }
        Check.same("limit -2 is seen", seen[0] > 0 ? 1 : 0, 1);
        Check.same("limit 0", Check.of("bird a 3;").limit(0, 9), 0);
        Check.same("by ratio 10 all is acquired", Check.of("bird a 3;heard a 1 1 1 9;ratio 10;").limit(0, 199), -2);
    }

    private static void chances() {
        // By one and the same run of seeds as told.
        boolean between = false;
        for (int noise = 20; noise <= 99; noise += 8) {
            for (int seed : new int[] {0, 1, 99999}) {
                String text = "bird a 3;bird b 8;heard a 55 6 0 1;drift a 3;heard b 2 9 0 1;ratio 13;noise " + noise;
                BirdCodes x = Check.of(text + ";seed " + seed + ";");
                long number = seed;
                int times = 0;
                int right = 0;
                for (int n = 1; n <= 10; n++) {
                    number = (number * 1103515245L + 12345) % (1L << 31);
                    BirdCodes other = Check.of(text + ";seed " + number % 100000 + ";");
                    if (other.hunt(0, 31, 1, 3) == 1) {
                        times++;
                        right += other.hunt(0, 31, 1, 0) == 62 * 6 + 3 ? 1 : 0;
                    }
                    Check.same("chance " + n + " 0", x.chance(0, 31, n, 0), times);
                    Check.same("chance " + n + " 1", x.chance(0, 31, n, 1), right);
                }
                between |= right > 0 && right < times && times < 10;
            }
        }
        Check.same("some are acquired elsewhere", between ? 1 : 0, 1);
        BirdCodes unheard = Check.of("bird a 0;noise 50;ratio 10;");
        Check.same("unheard, acquired", unheard.chance(0, 0, 4, 0), 4);
        Check.same("unheard, not right", unheard.chance(0, 0, 4, 1), 0);
    }

    private static void clearests() {
        int[] seen = new int[8];
        for (int seed = 0; seed < 12; seed++) {
            BirdCodes x = Check.of("bird a 3;heard a 20 7 0 1;noise 40;seed " + seed + ";");
            for (int period : new int[] {0, 50, 192}) {
                int best = 0;
                for (int k = 1; k < 8; k++) {
                    double quotient = (double) x.hunt(0, period + k, 1, 1) / x.hunt(0, period + k, 1, 2);
                    double greatest = (double) x.hunt(0, period + best, 1, 1) / x.hunt(0, period + best, 1, 2);
                    best = quotient > greatest ? k : best;
                }
                seen[best]++;
                Check.same("clearest " + seed + " from " + period, x.clearest(0, period, 8), period + best);
            }
        }
        Check.same("the first isn't all", seen[0] < 20 ? 1 : 0, 1);
        Check.same("of one", Check.of("bird a 0;").clearest(0, 199, 1), 199);
        Check.same("of nothing", Check.of("bird a 0;").clearest(0, 20, 8), 20);
        // The codes of ones have a rival as strong everywhere: all quotients are 1, the first one.
        Check.same("all alike", Check.of("first 1;second 1;bird a 0;heard a 9 7 0 1;").clearest(0, 30, 8), 30);
        // Nothing left: 0 by 1, which is less than any quotient ahead of its fading.
        Check.same("behind its fading", Check.of("bird a 0;heard a 0 7 0 1;fade a 31;").clearest(0, 30, 8), 30);
        Check.same("all behind its fading", Check.of("bird a 0;heard a 0 7 0 1;fade a 30;").clearest(0, 30, 8), 30);
    }

    private static void tunes() {
        for (int shift = 0; shift < 15; shift++) {
            BirdCodes x = Check.of("bird a 4;bird b 9;heard a 33 " + shift + " 11 9;heard b 1 3 0 2;noise 30;");
            Check.same("tune of shift " + shift, x.tune(0, 7, 33), shift);
            int best = 0;
            for (int s = 1; s < 15; s++) {
                best = x.sum(0, 8, 62 * s + 12, 0, 2) > x.sum(0, 8, 62 * best + 12, 0, 2) ? s : best;
            }
            Check.same("tune beside " + shift, x.tune(0, 8, 12), best);
        }
        Check.same("tune of nothing", Check.of("bird a 4;").tune(0, 199, 61), 0);
    }
}
