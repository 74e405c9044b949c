/** Promise 29: errors; and ERRORS of section 3. */
public final class Promise29ErrorsTest {
    /** One of its code is louder and sends nothing: all BITS of the log are 0, whatever a sends. */
    private static final String SILENT = "bird a 4;bird b 4;heard b 10 7 0 9;";

    public static void main(String[] args) {
        noneOfAClearOne();
        whicheverIsLess();
        sample31();
        theStartOfThatPeriod();
        theLast64();
        ofAnEmptyLog();
        faded();
        byNoise();
        notHeard();
        noSuchChannel();
        Check.end("Promise29ErrorsTest");
    }

    private static Run followed(String text, int lock, int n) {
        Run x = Run.of(text);
        Check.same("lock", x.lock(0, lock), 0);
        Check.same("follow", x.follow(n), n);
        return x;
    }

    private static void noneOfAClearOne() {
        Check.same("errors", followed("bird a 4;heard a 0 7 0 9;send a 1 5;", 0, 40).errors(0), 0);
        Check.same("errors", followed("bird a 4;heard a 5 3 0 9;send a 2 44;send a 3 23;", 9, 64).errors(0), 0);
        // All turned over are no errors, too.
        Run over = followed("bird a 4;heard a 0 7 8 9;send a 1 5;", 0, 40);
        Check.yes("a bit turned over", over.logged(0, 0) != over.bit(0, 1));
        Check.same("errors, turned over", over.errors(0), 0);
    }

    /** "how many aren't so, or how many are, whichever is less". */
    private static void whicheverIsLess() {
        int[][] sends = {{0, 0, 3}, {3, 63, 4}, {1, 5, 8}, {2, 49, 6}};
        for (int[] send : sends) {
            Run x = followed(SILENT + "heard a 20 7 0 1;send a " + send[0] + " " + send[1] + ";", 0, 16);
            int ones = 0;
            for (int i = 0; i < 16; i++) {
                Check.same("a bit of nothing", x.logged(0, i), 0);
                ones += x.bit(0, i);
            }
            Check.same("ones", Math.min(ones, 16 - ones), send[2]);
            Check.same("errors of " + send[0] + " " + send[1], x.errors(0), send[2]);
        }
        // Of one bit there is never one.
        Check.same("errors of one bit", followed(SILENT + "heard a 20 7 0 1;send a 0 0;", 15, 1).errors(0), 0);
        // Of 1, 0: one.
        Check.same("errors of two bits", followed(SILENT + "heard a 20 7 0 1;send a 0 0;", 15, 2).errors(0), 1);
        // Of 1, 0, 1: two aren't so, one is.
        Check.same("errors of three bits", followed(SILENT + "heard a 20 7 0 1;send a 0 0;", 15, 3).errors(0), 1);
    }

    /** "the BIT that the BIRD's SAMPLE 31 of that PERIOD has": by START 31 its own, by START 32 the one ahead. */
    private static void sample31() {
        // BITS 1 0 1 1 0 0 0 0 ..: of periods 4, 5, 6 all are 0, of 3, 4, 5 one isn't.
        for (int start = 0; start <= 61; start++) {
            Run x = followed(SILENT + "heard a " + start + " 7 0 1;send a 0 0;", 3, 3);
            Check.same("errors by START " + start, x.errors(0), start <= 31 ? 0 : 1);
        }
        // BIT -1 is 0: ahead of the first.
        Check.same("BIT 0 of periods 1, 2", followed(SILENT + "heard a 32 7 0 1;send a 0 0;", 0, 2).errors(0), 1);
    }

    /** The START of that PERIOD: by 31 and drift 1 it is behind SAMPLE 31 from period 1 on. */
    private static void theStartOfThatPeriod() {
        Check.same("BITS 3, 4, 5", followed(SILENT + "heard a 31 7 0 1;drift a 1;send a 0 0;", 3, 3).errors(0), 1);
        Check.same("BITS 4, 4, 5", followed(SILENT + "heard a 31 7 0 1;drift a 5;send a 0 0;", 3, 3).errors(0), 0);
        int most = 0;
        for (int noise = 0; noise <= 99; noise += 3) {
            Run x = followed("bird a 4;heard a 23 6 5 1;drift a 3;send a 1 5;send a 3 21;ratio 10;noise " + noise + ";", 7,
                1);
            x.follow(49);
            int wrong = 0;
            int next = x.channel(0, 5);
            int bits = x.channel(0, 8);
            for (int i = 0; i < bits; i++) {
                int period = next - bits + i;
                int number = Math.floorDiv(62 * period + 31 - 23 - period / 3, 62);
                wrong += x.logged(0, i) != x.bit(0, number) ? 1 : 0;
            }
            most = Math.max(most, Math.min(wrong, bits - wrong));
            Check.same("errors by noise " + noise, x.errors(0), Math.min(wrong, bits - wrong));
        }
        Check.yes("errors are seen", most > 3);
    }

    private static void theLast64() {
        Run x = followed("bird a 4;heard a 0 7 0 9;send a 1 5;", 0, 64);
        Check.same("errors of 64", x.errors(0), 0);
        x.follow(7);
        Check.same("errors of the last 64 of 71", x.errors(0), 0);
        x.follow(64);
        x.follow(64);
        Check.same("errors at the end", x.errors(0), 0);
        Check.same("the next period", x.channel(0, 5), 200);
        Run silent = followed(SILENT + "heard a 20 7 0 1;send a 0 0;", 0, 64);
        Check.same("of 64", silent.errors(0), 12);
        silent.follow(64);
        silent.follow(64);
        Check.same("of the last 64", silent.errors(0), 12);
    }

    private static void ofAnEmptyLog() {
        Run x = Run.of("bird a 4;heard a 0 7 0 9;send a 1 5;");
        x.lock(0, 0);
        Check.same("errors of an empty log", x.errors(0), 0);
        x.lock(0, 198);
        Check.same("errors of an empty log", x.errors(1), 0);
        x.follow(5);
        Check.same("at the end", x.errors(1), 0);
    }

    /** A BIRD that has faded is heard yet: BITS 10, 11, 12 are 0 1 0. */
    private static void faded() {
        Run x = Run.of("bird a 4;heard a 0 7 0 9;send a 1 5;fade a 10;");
        x.lock(0, 0);
        Check.same("follow", x.follow(64), 12);
        Check.same("errors", x.errors(0), 1);
    }

    private static void byNoise() {
        for (int seed = 0; seed < 20; seed++) {
            String text = "bird a 4;bird b 1;heard a 3 6 5 1;heard b 9 8 0 1;send a 1 5;send b 2 44;noise 60;ratio 10;seed "
                + seed + ";";
            Run x = Run.of(text);
            Oracle o = Oracle.of(text);
            for (int c = 0; c < 2; c++) {
                x.lock(c, 9);
                o.lock(c, 9);
            }
            x.follow(64);
            o.follow(64);
            x.follow(30);
            o.follow(30);
            for (int c = 0; c < 2; c++) {
                Check.same("errors of " + c + " by seed " + seed, x.errors(c), o.errors(c));
            }
        }
    }

    /** "-2: its BIRD is not heard". */
    private static void notHeard() {
        Run x = Run.of(SILENT);
        Check.same("lock", x.lock(0, 0), 0);
        Check.same("errors of an empty log", x.errors(0), -2);
        x.follow(3);
        Check.leaves(x, "errors", -2, o -> o.errors(0));
        x.lock(1, 0);
        Check.same("of the one heard", x.errors(1), 0);
    }

    private static void noSuchChannel() {
        Run x = Run.of(SILENT);
        x.lock(0, 0);
        for (int c : Check.beside(0, 0)) {
            Check.same("errors of " + c, x.errors(c), -1);
        }
        Check.leaves(x, "no such channel", -1, o -> o.errors(1));
        Check.same("of a new object", new Run().errors(0), -1);
    }
}
