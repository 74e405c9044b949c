/** Promise 12: sample. What SAMPLES are is told in section 2. */
public final class Promise12SampleTest {
    private static final String TEXT = "first 1;second 1;bird a 0;heard a 0 7 1 9;";

    public static void main(String[] args) {
        theFirstAndTheLast();
        noSuchSample();
        noSuchWhat();
        atAnyTime();
        Check.end("Promise12SampleTest");
    }

    private static void theFirstAndTheLast() {
        Run x = Run.of(TEXT);
        for (int n : new int[] {0, 1, 61, 62, 12337, 12338, 12398, 12399}) {
            Check.same("RE of " + n, x.sample(n, 0), 81);
            Check.same("IM of " + n, x.sample(n, 1), 36);
        }
    }

    /** "0: no such ones". */
    private static void noSuchSample() {
        Run x = Run.of(TEXT);
        Run noise = Run.of("noise 99;");
        for (int n : Check.beside(0, 12399)) {
            for (int what = 0; what <= 1; what++) {
                Check.same("sample " + n + " " + what, x.sample(n, what), 0);
                Check.same("noise of " + n + " " + what, noise.sample(n, what), 0);
            }
        }
        Check.same("sample 12461", x.sample(12461, 0), 0);
        Check.same("sample -62", x.sample(-62, 0), 0);
    }

    private static void noSuchWhat() {
        Run x = Run.of(TEXT);
        for (int what : Check.beside(0, 1)) {
            Check.same("sample 0 " + what, x.sample(0, what), 0);
            Check.same("sample 12399 " + what, x.sample(12399, what), 0);
        }
        Check.leaves(x, "no such sample", 0, o -> o.sample(12400, 0));
        Check.leaves(x, "no such what", 0, o -> o.sample(0, 2));
    }

    /** Samples are those of the text, whatever has been asked or told ahead. */
    private static void atAnyTime() {
        Run x = Run.of("bird a 3;heard a 4 9 3 5;noise 30;seed 4;");
        Oracle o = Oracle.of("bird a 3;heard a 4 9 3 5;noise 30;seed 4;");
        x.sample(5, 0);
        x.clear(0, 0, 0);
        Check.same("behind clear", x.sample(5, 0), o.sample(5, 0));
        x.limit(0, 0);
        Check.same("behind limit", x.sample(6, 1), o.sample(6, 1));
        x.chance(0, 0, 2, 0);
        Check.same("behind chance", x.sample(7, 0), o.sample(7, 0));
        x.tell("bird a 3;heard a 4 9 3 5;noise 31;seed 4;?");
        Check.same("behind a fault", x.sample(8, 0), o.sample(8, 0));
        x.tell("bird a 3;heard a 4 9 3 4;noise 30;seed 4;");
        Check.same("behind another text", x.sample(8, 0),
            Oracle.of("bird a 3;heard a 4 9 3 4;noise 30;seed 4;").sample(8, 0));
    }
}
