/** Promise 7: chip; and the codes of section 2. */
public final class Promise07ChipTest {
    private static final String ONES = "1111111111111111111111111111111";

    public static void main(String[] args) {
        byBothRegisters();
        otherMasks();
        around();
        masksBehindTheBirds();
        noSuchOnes();
        Check.end("Promise07ChipTest");
    }

    private static void same(Run x, int bird, String first, String second, int delay) {
        for (int i = 0; i < 31; i++) {
            Check.same("chip " + i + " by " + delay, x.chip(bird, i), Codes.chip(first, second, delay, i));
        }
    }

    private static void byBothRegisters() {
        int[] delays = {0, 30, 1, 17, 5};
        Run x = Run.of("bird a 0;bird b 30;bird c 1;bird d 17;bird e 5;");
        for (int b = 0; b < 5; b++) {
            same(x, b, Codes.BY_5, Codes.BY_29, delays[b]);
        }
    }

    private static void otherMasks() {
        same(Run.of("second 1;bird a 0;"), 0, Codes.BY_5, ONES, 0);
        same(Run.of("first 31;bird a 0;"), 0, ONES, Codes.BY_29, 0);
        same(Run.of("first 1;second 5;bird a 0;"), 0, ONES, Codes.BY_5, 0);
        same(Run.of("first 3;second 29;bird a 22;"), 0, Codes.BY_3, Codes.BY_29, 22);
        same(Run.of("first 29;second 3;bird a 9;"), 0, Codes.BY_29, Codes.BY_3, 9);
        same(Run.of("first 16;second 2;bird a 9;"), 0, ONES, ONES, 9);
    }

    /** The DELAY moves SECOND alone, and around. */
    private static void around() {
        for (int delay = 0; delay <= 30; delay++) {
            Run x = Run.of("first 1;second 5;bird a " + delay + ";");
            same(x, 0, ONES, Codes.BY_5, delay);
            Check.same("the last one", x.chip(0, 30), Codes.BY_5.charAt((30 + delay) % 31) == '1' ? 1 : -1);
            same(Run.of("second 1;bird a " + delay + ";"), 0, Codes.BY_5, ONES, delay);
        }
    }

    private static void masksBehindTheBirds() {
        same(Run.of("bird a 3;second 1;first 3;"), 0, Codes.BY_3, ONES, 3);
        Run x = Run.of("bird a 3;second 1;first 3;");
        x.tell("bird a 3;first 1;?");
        same(x, 0, Codes.BY_3, ONES, 3);
        x.tell("bird a 3;");
        same(x, 0, Codes.BY_5, Codes.BY_29, 3);
    }

    /** "0: no such ones". */
    private static void noSuchOnes() {
        Run x = Run.of("bird a 0;bird b 3;");
        Check.yes("the first one", x.chip(0, 0) != 0);
        Check.yes("the last one", x.chip(1, 30) != 0);
        for (int i : Check.beside(0, 30)) {
            Check.same("chip 1 " + i, x.chip(1, i), 0);
        }
        for (int b : Check.beside(0, 1)) {
            Check.same("chip of bird " + b, x.chip(b, 0), 0);
            Check.same("chip -1 of bird " + b, x.chip(b, -1), 0);
        }
        Check.same("of a new object", new Run().chip(0, 0), 0);
    }
}
