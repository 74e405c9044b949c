/** Promise 15: hunt. What PEAK, RIVAL and ACQUIRED are is told in section 3. */
public final class Promise15HuntTest {
    private static final String MANY = "bird a 0;bird b 3;bird c 7;heard a 10 7 0 3;heard b 40 3 5 4;heard c 5 12 9 2;"
        + "noise 3;";

    public static void main(String[] args) {
        all();
        allBelow200();
        noSuchM();
        noSuchBird();
        noSuchPeriod();
        noSuchWhat();
        Check.end("Promise15HuntTest");
    }

    private static void all() {
        Run x = Run.of("bird a 4;heard a 33 9 0 8;");
        Check.same("PEAK", x.hunt(0, 0, 1, 0), 62 * 9 + 33);
        Check.same("its POWER", x.hunt(0, 0, 1, 1), x.sum(0, 0, 62 * 9 + 33, 0, 2));
        Check.yes("RIVAL", x.hunt(0, 0, 1, 2) > 0 && x.hunt(0, 0, 1, 2) < x.hunt(0, 0, 1, 1));
        Check.same("ACQUIRED", x.hunt(0, 0, 1, 3), 1);
        Check.same("not ACQUIRED", Run.of("bird a 4;").hunt(0, 0, 1, 3), 0);
        Oracle o = Oracle.of(MANY);
        Run many = Run.of(MANY);
        for (int bird = 0; bird < 3; bird++) {
            for (int m = 1; m <= 4; m++) {
                for (int what = 0; what < 4; what++) {
                    Check.same("hunt " + bird + " " + m + " " + what, many.hunt(bird, 9, m, what),
                        o.hunt(bird, 9, m, what));
                }
            }
        }
    }

    /** "m 1 .. 4 PERIODS (all below 200)". */
    private static void allBelow200() {
        Run x = Run.of(MANY);
        Oracle o = Oracle.of(MANY);
        for (int m = 1; m <= 4; m++) {
            for (int what = 0; what < 4; what++) {
                Check.same("last of " + m, x.hunt(0, 200 - m, m, what), o.hunt(0, 200 - m, m, what));
                Check.same("one beyond, of " + m, x.hunt(0, 201 - m, m, what), -1);
            }
            Check.yes("first of " + m, x.hunt(0, 0, m, 1) > 0);
            Check.same("from 200 on " + m, x.hunt(0, 200, m, 0), -1);
            Check.same("from 199 on " + m, x.hunt(0, 199, m, 3), m == 1 ? 1 : -1);
        }
    }

    private static void noSuchM() {
        Run x = Run.of(MANY);
        for (int m : Check.beside(1, 4)) {
            for (int what = 0; what < 4; what++) {
                Check.same("hunt over " + m, x.hunt(0, 0, m, what), -1);
                Check.same("hunt over " + m, x.hunt(0, 199, m, what), -1);
            }
        }
    }

    private static void noSuchBird() {
        Run x = Run.of(MANY);
        for (int bird : Check.beside(0, 2)) {
            Check.same("hunt of bird " + bird, x.hunt(bird, 0, 1, 0), -1);
        }
        Check.same("of a new object", new Run().hunt(0, 0, 1, 0), -1);
    }

    private static void noSuchPeriod() {
        Run x = Run.of(MANY);
        for (int period : Check.beside(0, 199)) {
            for (int m = 1; m <= 4; m++) {
                Check.same("hunt from " + period, x.hunt(0, period, m, 0), -1);
            }
        }
    }

    private static void noSuchWhat() {
        Run x = Run.of(MANY);
        for (int what : Check.beside(0, 3)) {
            Check.same("hunt what " + what, x.hunt(0, 0, 1, what), -1);
        }
        Check.leaves(x, "no such what", -1, o -> o.hunt(0, 0, 1, 4));
        Check.leaves(x, "a hunt", 62 * 7 + 10, o -> o.hunt(0, 0, 1, 0));
    }
}
