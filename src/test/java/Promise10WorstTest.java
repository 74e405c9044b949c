/** Promise 10: worst. */
public final class Promise10WorstTest {
    public static void main(String[] args) {
        theGreatest();
        withoutItsSign();
        ofOneAndTheSame();
        twoAlike();
        noSuchBirds();
        Check.end("Promise10WorstTest");
    }

    private static int worst(int[] one, int[] other, int from) {
        int worst = 0;
        for (int by = from; by <= 30; by++) {
            worst = Math.max(worst, Math.abs(Codes.cross(one, other, by)));
        }
        return worst;
    }

    private static void theGreatest() {
        for (int delay = 0; delay <= 30; delay++) {
            Run x = Run.of("first 3;bird a 7;bird b " + delay + ";");
            int[] a = Codes.code(Codes.BY_3, Codes.BY_29, 7);
            int[] b = Codes.code(Codes.BY_3, Codes.BY_29, delay);
            Check.same("worst 0 1", x.worst(0, 1), worst(a, b, 0));
            Check.same("worst 1 0", x.worst(1, 0), worst(b, a, 0));
            Check.same("worst 1 1", x.worst(1, 1), worst(b, b, 1));
        }
    }

    /** The codes of masks 5 and 29 are -9 and 7 apart, by theory: the greatest is one below 0. */
    private static void withoutItsSign() {
        Run x = Run.of("bird a 0;bird b 3;");
        int least = 0;
        int most = 0;
        for (int by = 0; by <= 30; by++) {
            least = Math.min(least, x.cross(0, 1, by));
            most = Math.max(most, x.cross(0, 1, by));
        }
        Check.yes("the greatest without its sign is below 0", -least > most);
        Check.same("worst 0 1", x.worst(0, 1), -least);
        Check.same("worst 0 1", x.worst(0, 1), 9);
    }

    /** "of one and the same: but for 0". */
    private static void ofOneAndTheSame() {
        Check.same("a register alone", Run.of("first 1;second 5;bird a 11;").worst(0, 0), 1);
        Check.same("all ones", Run.of("first 1;second 1;bird a 0;").worst(0, 0), 31);
        Check.same("of two registers", Run.of("bird a 0;bird b 30;").worst(1, 1), 9);
    }

    /** Two BIRDS are two, though their codes are one: by 0 steps all are alike. */
    private static void twoAlike() {
        Run x = Run.of("first 1;second 5;bird a 11;bird b 4;bird c 11;");
        Check.same("of one delay", x.worst(0, 2), 31);
        Check.same("of one delay, turned about", x.worst(2, 0), 31);
        Check.same("alike by 7 steps", x.worst(0, 1), 31);
        Check.same("of the last step", Run.of("first 1;second 5;bird a 1;bird b 2;").worst(0, 1), 31);
        Check.same("of the first step", Run.of("first 1;second 5;bird a 2;bird b 1;").worst(0, 1), 31);
    }

    private static void noSuchBirds() {
        Run x = Run.of("bird a 0;bird b 3;bird c 30;");
        for (int bird : Check.beside(0, 2)) {
            Check.same("worst 0 " + bird, x.worst(0, bird), -2);
            Check.same("worst " + bird + " 0", x.worst(bird, 0), -2);
            Check.same("worst of one and the same " + bird, x.worst(bird, bird), -2);
        }
        Check.same("of a new object", new Run().worst(0, 0), -2);
        Check.yes("of the last one", x.worst(2, 0) >= 0);
    }
}
