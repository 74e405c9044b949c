/** Promise 9: cross. */
public final class Promise09CrossTest {
    public static void main(String[] args) {
        byEachStep();
        byHand();
        theOtherIsFurther();
        noSuchOnes();
        Check.end("Promise09CrossTest");
    }

    private static void byEachStep() {
        int[] delays = {0, 3, 30};
        Run x = Run.of("bird a 0;bird b 3;bird c 30;");
        for (int one = 0; one < 3; one++) {
            for (int other = 0; other < 3; other++) {
                for (int by = 0; by <= 30; by++) {
                    Check.same("cross " + one + " " + other + " " + by, x.cross(one, other, by),
                        Codes.cross(Codes.code(Codes.BY_5, Codes.BY_29, delays[one]),
                            Codes.code(Codes.BY_5, Codes.BY_29, delays[other]), by));
                }
            }
        }
    }

    private static void byHand() {
        // A register of mask 5 alone: 31 with itself, -1 by any other step.
        Run x = Run.of("first 1;second 5;bird a 11;bird b 4;bird c 11;");
        for (int by = 0; by <= 30; by++) {
            Check.same("with itself by " + by, x.cross(0, 0, by), by == 0 ? 31 : -1);
            Check.same("with one alike by " + by, x.cross(0, 2, by), by == 0 ? 31 : -1);
            // a's chip i is b's chip i and 7.
            Check.same("a b by " + by, x.cross(0, 1, by), by == 7 ? 31 : -1);
            Check.same("b a by " + by, x.cross(1, 0, by), by == 24 ? 31 : -1);
        }
        Run ones = Run.of("first 1;second 1;bird a 0;");
        Check.same("of all ones", ones.cross(0, 0, 30), 31);
    }

    /** The chips of the other one are further, around: by 30 its last but the first. */
    private static void theOtherIsFurther() {
        Run x = Run.of("first 3;second 1;bird a 0;");
        int[] code = new int[31];
        for (int i = 0; i < 31; i++) {
            code[i] = Codes.BY_3.charAt(i) == '1' ? 1 : -1;
        }
        for (int by : new int[] {0, 1, 21, 29, 30}) {
            Check.same("by " + by, x.cross(0, 0, by), Codes.cross(code, code, by));
        }
    }

    /** "-99: no such ones". */
    private static void noSuchOnes() {
        Run x = Run.of("bird a 0;bird b 3;");
        Check.yes("steps 0", x.cross(0, 1, 0) != -99);
        Check.yes("steps 30", x.cross(1, 0, 30) != -99);
        for (int by : Check.beside(0, 30)) {
            Check.same("cross 0 1 " + by, x.cross(0, 1, by), -99);
        }
        for (int bird : Check.beside(0, 1)) {
            Check.same("cross " + bird + " 0", x.cross(bird, 0, 0), -99);
            Check.same("cross 0 " + bird, x.cross(0, bird, 0), -99);
            Check.same("cross of both", x.cross(bird, bird, 0), -99);
        }
        Check.same("of a new object", new Run().cross(0, 0, 0), -99);
    }
}
