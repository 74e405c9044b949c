/** Promise 21: tune. */
public final class Promise21TuneTest {
    public static void main(String[] args) {
        theShift();
        ofThatStartAlone();
        theFirst();
        ofTurn0();
        noSuchOnes();
        Check.end("Promise21TuneTest");
    }

    private static void theShift() {
        for (int shift = 0; shift <= 14; shift++) {
            Run x = Run.of("bird a 4;bird b 9;heard a 33 " + shift + " 11 9;heard b 1 3 0 2;noise 30;");
            Check.same("tune of shift " + shift, x.tune(0, 7, 33), shift);
            Check.same("tune at 0", x.tune(0, 0, 33), shift);
            Check.same("tune at 199", x.tune(0, 199, 33), shift);
        }
        Check.same("start 0", Run.of("bird a 4;heard a 0 14 3 9;").tune(0, 199, 0), 14);
        Check.same("start 61", Run.of("bird a 4;heard a 61 14 3 9;").tune(0, 0, 61), 14);
    }

    private static void ofThatStartAlone() {
        Run x = Run.of("bird a 4;bird b 4;heard a 33 5 0 4;heard b 12 9 0 9;noise 50;seed 3;");
        Check.same("the peak is elsewhere", x.hunt(0, 0, 1, 0), 62 * 9 + 12);
        Check.same("start 33", x.tune(0, 0, 33), 5);
        Check.same("start 12", x.tune(0, 0, 12), 9);
        for (int start = 0; start <= 61; start++) {
            int best = 0;
            for (int shift = 1; shift <= 14; shift++) {
                best = x.sum(0, 8, 62 * shift + start, 0, 2) > x.sum(0, 8, 62 * best + start, 0, 2) ? shift : best;
            }
            Check.same("tune of start " + start, x.tune(0, 8, start), best);
        }
    }

    /** "the SHIFT of the greatest, the first one". */
    private static void theFirst() {
        Check.same("nothing heard", Run.of("bird a 4;").tune(0, 199, 61), 0);
        Check.same("faded", Run.of("bird a 4;heard a 3 9 0 9;fade a 5;").tune(0, 5, 3), 0);
        Check.same("not yet faded", Run.of("bird a 4;heard a 3 9 0 9;fade a 5;").tune(0, 4, 3), 9);
        // Heard by shifts 3 and 11 the sums are alike.
        Run two = Run.of("bird a 4;bird b 4;heard a 0 3 0 8;heard b 0 11 0 8;");
        Check.same("alike", two.sum(0, 0, 62 * 3, 0, 2), two.sum(0, 0, 62 * 11, 0, 2));
        Check.same("tune of two alike", two.tune(0, 0, 0), 3);
        Run turned = Run.of("bird a 4;bird b 4;heard a 0 11 0 8;heard b 0 3 0 8;");
        Check.same("tune of two alike, turned about", turned.tune(0, 0, 0), 3);
        // Four birds that take one another away but for two samples: powers of 0 and 1 alone, that of shift 0 is 0.
        Run small = Run.of("first 12;second 10;bird a 2;bird b 2;bird c 2;bird d 2;heard a 60 5 6 1;heard b 60 5 15 1;"
            + "heard c 60 5 6 1;heard d 60 5 15 1;send a 3 21;send b 3 21;");
        for (int shift = 0; shift <= 14; shift++) {
            boolean one = shift == 1 || shift == 3 || shift == 4 || shift >= 13;
            Check.same("small power by shift " + shift, small.sum(0, 33, 62 * shift + 5, 0, 2), one ? 1 : 0);
        }
        Check.same("the first power of 1", small.tune(0, 33, 5), 1);
    }

    private static void ofTurn0() {
        for (int turn = 0; turn < 16; turn++) {
            Run x = Run.of("bird a 4;heard a 33 11 " + turn + " 9;");
            Check.same("by turn " + turn, x.tune(0, 3, 33), 11);
            Check.same("at a start off by " + turn, x.tune(0, 3, turn),
                Oracle.of("bird a 4;heard a 33 11 " + turn + " 9;").tune(0, 3, turn));
        }
    }

    private static void noSuchOnes() {
        Run x = Run.of("bird a 4;heard a 33 11 0 9;bird b 4;");
        for (int bird : Check.beside(0, 1)) {
            Check.same("tune of bird " + bird, x.tune(bird, 0, 33), -1);
        }
        for (int period : Check.beside(0, 199)) {
            Check.same("tune at " + period, x.tune(0, period, 33), -1);
        }
        for (int start : Check.beside(0, 61)) {
            Check.same("tune of start " + start, x.tune(0, 0, start), -1);
        }
        Check.leaves(x, "tune", 11, o -> o.tune(0, 0, 33));
        Check.same("of a new object", new Run().tune(0, 0, 0), -1);
    }
}
