/** Promise 19: chance; and BY CHANCE of section 3. */
public final class Promise19ChanceTest {
    public static void main(String[] args) {
        bySeedsTold();
        theSeedItselfIsNone();
        onceAndTenTimes();
        theStartModulo62();
        notHeard();
        nothingIsChanged();
        noSuchOnes();
        Check.end("Promise19ChanceTest");
    }

    private static long next(long x) {
        return (x * 1103515245L + 12345) % (1L << 31);
    }

    /** "x modulo 100000 were the seed": by texts with these seeds. */
    private static void bySeedsTold() {
        boolean elsewhere = false;
        boolean notAll = false;
        for (int noise = 20; noise <= 99; noise += 8) {
            for (int seed : new int[] {0, 1, 99999}) {
                String text = "bird a 3;bird b 8;heard a 55 6 0 1;drift a 3;heard b 2 9 0 1;ratio 13;noise " + noise;
                Run x = Run.of(text + ";seed " + seed + ";");
                long number = seed;
                int times = 0;
                int right = 0;
                for (int n = 1; n <= 10; n++) {
                    number = next(number);
                    Run other = Run.of(text + ";seed " + number % 100000 + ";");
                    if (other.hunt(0, 31, 1, 3) == 1) {
                        times++;
                        // The start in period 31 is 65, modulo 62.
                        right += other.hunt(0, 31, 1, 0) == 62 * 6 + 3 ? 1 : 0;
                    }
                    Check.same("chance " + n + " 0", x.chance(0, 31, n, 0), times);
                    Check.same("chance " + n + " 1", x.chance(0, 31, n, 1), right);
                }
                elsewhere |= right > 0 && right < times;
                notAll |= times > 0 && times < 10;
            }
        }
        Check.yes("some are acquired elsewhere", elsewhere);
        Check.yes("some aren't acquired", notAll);
    }

    /** "x is the seed at first; each time x becomes": the first time is not by the seed. */
    private static void theSeedItselfIsNone() {
        int others = 0;
        for (int seed = 0; seed < 60; seed++) {
            Run x = Run.of("bird a 3;heard a 20 7 0 1;noise 50;ratio 13;seed " + seed + ";");
            Run next = Run.of("bird a 3;heard a 20 7 0 1;noise 50;ratio 13;seed " + next(seed) % 100000 + ";");
            Check.same("once by seed " + seed, x.chance(0, 4, 1, 0), next.hunt(0, 4, 1, 3));
            others += x.hunt(0, 4, 1, 3) != next.hunt(0, 4, 1, 3) ? 1 : 0;
        }
        Check.yes("by the seed it would be another", others > 0);
    }

    private static void onceAndTenTimes() {
        Run x = Run.of("bird a 3;heard a 20 7 0 9;noise 9;");
        for (int what = 0; what <= 1; what++) {
            Check.same("once", x.chance(0, 0, 1, what), 1);
            Check.same("ten times", x.chance(0, 199, 10, what), 10);
        }
        Run silent = Run.of("bird a 3;heard a 20 7 0 9;fade a 1;");
        Check.same("never", silent.chance(0, 1, 10, 0), 0);
        Check.same("ahead of its fading, without noise", silent.chance(0, 0, 10, 1), 10);
    }

    private static void theStartModulo62() {
        Run x = Run.of("bird a 3;heard a 61 7 0 9;drift a 1;noise 3;");
        Check.same("61", x.chance(0, 0, 3, 1), 3);
        Check.same("62 is 0", x.chance(0, 1, 3, 1), 3);
        Check.same("124 is 0", x.chance(0, 63, 3, 1), 3);
        Check.same("260 is 12", x.chance(0, 199, 3, 1), 3);
        // Of its start or its shift alone it isn't right.
        Run start = Run.of("bird a 4;bird b 4;heard a 20 7 0 1;heard b 20 11 0 9;");
        Check.same("acquired by another shift", start.chance(0, 0, 2, 0), 2);
        Check.same("not right", start.chance(0, 0, 2, 1), 0);
        Run shift = Run.of("bird a 4;bird b 4;heard a 20 7 0 1;heard b 40 7 0 9;");
        Check.same("acquired by another start", shift.chance(0, 0, 2, 0), 2);
        Check.same("not right", shift.chance(0, 0, 2, 1), 0);
    }

    /** "0, if it is not heard": though it is acquired by chance. */
    private static void notHeard() {
        Run x = Run.of("bird a 0;noise 50;ratio 10;");
        Check.same("acquired", x.chance(0, 0, 4, 0), 4);
        Check.same("not right", x.chance(0, 0, 4, 1), 0);
        // A cell 0 that is acquired isn't its start and shift: none are told.
        Run other = Run.of("bird a 4;bird b 4;heard b 0 0 0 9;");
        Check.same("peak", other.hunt(0, 0, 1, 0), 0);
        Check.same("acquired", other.chance(0, 0, 4, 0), 4);
        Check.same("not right", other.chance(0, 0, 4, 1), 0);
    }

    private static void nothingIsChanged() {
        String text = "bird a 3;heard a 55 6 0 1;noise 40;seed 7;";
        Run x = Run.of(text);
        Check.leaves(x, "chance", Oracle.of(text).chance(0, 5, 3, 0), o -> o.chance(0, 5, 3, 0));
        x.chance(0, 1, 1, 0);
        Check.same("sample behind it", x.sample(70, 0), Run.of(text).sample(70, 0));
        Check.same("asked again", x.chance(0, 5, 3, 0), Oracle.of(text).chance(0, 5, 3, 0));
    }

    private static void noSuchOnes() {
        Run x = Run.of("bird a 3;heard a 20 7 0 9;bird b 4;");
        for (int bird : Check.beside(0, 1)) {
            Check.same("chance of bird " + bird, x.chance(bird, 0, 1, 0), -1);
        }
        for (int period : Check.beside(0, 199)) {
            Check.same("chance at " + period, x.chance(0, period, 1, 0), -1);
            Check.same("of one not heard at " + period, x.chance(1, period, 1, 1), -1);
        }
        for (int n : Check.beside(1, 10)) {
            Check.same("chance " + n + " times", x.chance(0, 0, n, 0), -1);
            Check.same("of one not heard " + n + " times", x.chance(1, 0, n, 1), -1);
        }
        for (int what : Check.beside(0, 1)) {
            Check.same("chance what " + what, x.chance(0, 0, 1, what), -1);
        }
        Check.same("of a new object", new Run().chance(0, 0, 1, 0), -1);
    }
}
