/** Promise 16: listen. */
public final class Promise16ListenTest {
    public static void main(String[] args) {
        atOnce();
        theLeast();
        byNone();
        othersThan200DontCount();
        itsStartAndItsShift();
        inThatPeriod();
        theStartModulo62();
        notHeard();
        noSuchOnes();
        Check.end("Promise16ListenTest");
    }

    private static void atOnce() {
        Run x = Run.of("bird a 0;heard a 0 7 0 9;fade a 5;bird b 2;heard b 61 14 0 1;fade b 3;");
        Check.same("at 0", x.listen(0, 0), 1);
        Check.same("the last one ahead of fading", x.listen(0, 4), 1);
        Check.same("behind it", x.listen(0, 5), -3);
        Check.same("at 199", Run.of("bird a 0;heard a 0 7 0 9;").listen(0, 199), 1);
    }

    private static void theLeast() {
        int[] seen = new int[5];
        for (int noise = 0; noise <= 99; noise += 3) {
            String text = "bird a 3;bird b 8;heard a 55 6 0 1;heard b 2 9 0 1;noise " + noise
                + ";seed 31;drift a 7;ratio 12;";
            Run x = Run.of(text);
            Oracle o = Oracle.of(text);
            for (int period : new int[] {0, 60, 120, 195}) {
                int due = -3;
                for (int m = 4; m >= 1; m--) {
                    boolean there = x.hunt(0, period, m, 0) == 62 * 6 + (55 + period / 7) % 62;
                    due = x.hunt(0, period, m, 3) == 1 && there ? m : due;
                }
                seen[Math.max(0, due)]++;
                Check.same("listen by " + noise + " at " + period, x.listen(0, period), due);
                Check.same("listen, word for word", x.listen(0, period), o.listen(0, period));
            }
        }
        for (int m = 0; m <= 4; m++) {
            Check.yes("listen " + (m == 0 ? -3 : m) + " is seen", seen[m] > 0);
        }
    }

    private static void byNone() {
        // One is heard, but the other one of the same code is louder.
        Run x = Run.of("bird a 4;bird b 4;heard a 60 7 0 1;heard b 30 7 0 9;");
        Check.same("acquired elsewhere", x.hunt(0, 0, 1, 3), 1);
        Check.same("by none", x.listen(0, 0), -3);
        Check.same("the louder one", x.listen(1, 0), 1);
    }

    /** "(m PERIODS are below 200, others don't count)". */
    private static void othersThan200DontCount() {
        int[][] seen = new int[5][5];
        for (int seed = 0; seed < 400; seed++) {
            String text = "bird a 3;heard a 55 6 0 1;noise 60;seed " + seed + ";ratio 12;";
            Run x = Run.of(text);
            for (int period = 196; period <= 199; period++) {
                int due = -3;
                for (int m = 200 - period; m >= 1; m--) {
                    boolean right = x.hunt(0, period, m, 3) == 1 && x.hunt(0, period, m, 0) == 62 * 6 + 55;
                    due = right ? m : due;
                }
                Check.same("listen by seed " + seed + " at " + period, x.listen(0, period), due);
                seen[200 - period][Math.max(0, due)]++;
            }
        }
        for (int most = 1; most <= 4; most++) {
            for (int m = 0; m <= most; m++) {
                Check.yes("of " + most + " periods left " + m + " is seen", seen[most][m] > 0);
            }
        }
    }

    /** "the PEAK is its START and SHIFT": either one alone isn't enough. */
    private static void itsStartAndItsShift() {
        Run start = Run.of("bird a 4;bird b 4;heard a 20 7 0 1;heard b 20 11 0 9;");
        Check.same("acquired by another shift", start.hunt(0, 0, 1, 0), 62 * 11 + 20);
        Check.same("of that start alone", start.listen(0, 0), -3);
        Run shift = Run.of("bird a 4;bird b 4;heard a 20 7 0 1;heard b 40 7 0 9;");
        Check.same("acquired by another start", shift.hunt(0, 0, 1, 0), 62 * 7 + 40);
        Check.same("of that shift alone", shift.listen(0, 0), -3);
        Run both = Run.of("bird a 4;bird b 4;heard a 20 7 0 1;heard b 20 7 0 9;");
        Check.same("of both", both.listen(0, 0), 1);
    }

    /** "its START (in that PERIOD)", the first of all that are listened to. */
    private static void inThatPeriod() {
        Run x = Run.of("bird a 4;heard a 20 7 0 9;drift a 10;");
        Check.same("ahead of a drift", x.listen(0, 9), 1);
        Check.same("behind it", x.listen(0, 10), 1);
        // Another one of its code waits one start further: a's own is the start of the first period.
        Run late = Run.of("bird a 4;bird b 4;heard a 20 7 0 1;heard b 21 7 0 9;drift a 10;");
        Check.same("the peak is at 21", late.hunt(0, 9, 1, 0), 62 * 7 + 21);
        Check.same("in period 9 it is 20", late.listen(0, 9), -3);
        Check.same("in period 10 it is 21", late.listen(0, 10), 1);
        int[] seen = new int[5];
        for (int seed = 0; seed < 150; seed++) {
            String text = "bird a 3;heard a 55 6 0 1;drift a 2;noise 52;seed " + seed + ";ratio 11;";
            int due = Oracle.of(text).listen(0, 11);
            seen[Math.max(0, due)]++;
            Check.same("listen by seed " + seed, Run.of(text).listen(0, 11), due);
        }
        Check.yes("more than one period while it drifts", seen[2] + seen[3] + seen[4] > 0);
    }

    private static void theStartModulo62() {
        Run x = Run.of("bird a 0;heard a 61 7 0 9;drift a 5;");
        Check.same("61", x.listen(0, 4), 1);
        Check.same("62 is 0", x.listen(0, 5), 1);
        Run far = Run.of("bird a 0;heard a 61 7 0 9;drift a 1;");
        Check.same("260 is 12", far.hunt(0, 199, 1, 0), 62 * 7 + 12);
        Check.same("found there", far.listen(0, 199), 1);
        Check.same("124 is 0", far.listen(0, 63), 1);
    }

    private static void notHeard() {
        Run x = Run.of("bird a 0;noise 9;ratio 10;drift a 1;fade a 9;");
        Check.same("acquired by chance", x.hunt(0, 0, 1, 3), 1);
        Check.same("not heard", x.listen(0, 0), -2);
        Check.same("not heard at 199", x.listen(0, 199), -2);
        // One that has faded is heard, if not there.
        Check.same("faded", Run.of("bird a 0;heard a 0 7 0 9;fade a 1;").listen(0, 1), -3);
    }

    private static void noSuchOnes() {
        Run x = Run.of("bird a 0;heard a 0 7 0 9;bird b 0;");
        for (int bird : Check.beside(0, 1)) {
            Check.same("listen to bird " + bird, x.listen(bird, 0), -1);
        }
        for (int period : Check.beside(0, 199)) {
            Check.same("listen from " + period, x.listen(0, period), -1);
            Check.same("NONE ahead of -2, from " + period, x.listen(1, period), -1);
        }
        Check.leaves(x, "no such period", -1, o -> o.listen(0, 200));
        Check.leaves(x, "not heard", -2, o -> o.listen(1, 0));
        Check.same("of a new object", new Run().listen(0, 0), -1);
    }
}
