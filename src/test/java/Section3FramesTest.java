import java.util.List;

/** Section 3, that promises 27, 28, 30 and 39 ask for: FRAMES in a LOG. */
public final class Section3FramesTest {
    public static void main(String[] args) {
        sixteenFromThereOn();
        theNextIs16Behind();
        turnedOver();
        badIsOneBehind();
        noSuchFour();
        noisyLogs();
        Check.end("Section3FramesTest");
    }

    /** A log of n bits from the bit of that number on: locked a period ahead of it. */
    private static Run log(String sends, int from, int n) {
        Run x = Run.of("bird a 4;heard a 0 7 0 9;" + sends);
        Check.same("lock", x.lock(0, from - 1), 0);
        Check.same("follow", x.follow(n), n);
        for (int i = 0; i < n; i++) {
            Check.same("bit " + i, x.logged(0, i), x.bit(0, from + i));
        }
        return x;
    }

    /** "at a place with 16 BITS from there on". */
    private static void sixteenFromThereOn() {
        Run x = log("send a 1 5;send a 2 60;send a 0 0;", 16, 15);
        Check.same("of 15 bits", x.frame(0, -1, 0), 0);
        Check.same("none is bad", x.bad(0), 0);
        x.follow(1);
        Check.same("of 16 bits", x.frame(0, -1, 0), 1);
        x.follow(15);
        Check.same("of 31 bits", x.frame(0, -1, 0), 1);
        x.follow(1);
        Check.same("of 32 bits", x.frame(0, -1, 0), 2);
        // Its first place is 48 of 64 bits, the last one with 16.
        x.follow(32);
        Check.same("of 64 bits", x.frame(0, -1, 0), 4);
        Check.same("the last place", x.frame(0, 3, 0), 48);
    }

    /** "the next place is 16 behind": what a frame has inside isn't looked at. */
    private static void theNextIs16Behind() {
        // KIND 2, VALUE 49 is 1011 10 110001 1101: 1011 stands in it, too, from its sixth bit on.
        Run x = log("send a 2 49;", 16, 64);
        Check.same("bits", x.logged(0, 6), 1);
        List<int[]> due = Logs.same(x, 0);
        Check.same("four frames", due.size() - 1, 4);
        for (int k = 0; k < 4; k++) {
            Check.same("place " + k, x.frame(0, k, 0), 16 * k);
        }
        Check.same("none is bad", x.bad(0), 0);
    }

    /** "or 0 1 0 0 (then all 16 are turned over)": by a TURN of 8 all BITS are. */
    private static void turnedOver() {
        Run x = Run.of("bird a 4;heard a 0 7 8 9;send a 1 5;send a 2 60;");
        x.lock(0, 15);
        x.follow(32);
        Check.same("bit 0 is 0", x.logged(0, 0), 0);
        int[][] due = {{0, 2, 60, 1}, {16, 1, 5, 1}};
        Check.same("frames", x.frame(0, -1, 0), 2);
        for (int k = 0; k < 2; k++) {
            for (int what = 0; what < 4; what++) {
                Check.same("frame " + k + " " + what, x.frame(0, k, what), due[k][what]);
            }
        }
        Logs.same(x, 0);
    }

    /** "else it is BAD, the next place is one behind". */
    private static void badIsOneBehind() {
        // 0 1 1 0 1 0 0 0 1 0 1 0 0 1 1 and then the frame: at places 3 and 9 there are such four.
        Run x = log("send a 1 5;", 1, 40);
        Check.same("frames", x.frame(0, -1, 0), 1);
        Check.same("its place", x.frame(0, 0, 0), 15);
        Check.same("bad", x.bad(0), 2);
        Logs.same(x, 0);
        Run few = log("send a 1 5;", 1, 18);
        Check.same("bad of 18 bits", few.bad(0), 0);
        few.follow(1);
        Check.same("bad of 19 bits", few.bad(0), 1);
        int most = 0;
        for (int value = 0; value < 64; value++) {
            Run y = log("send a " + value % 4 + " " + value + ";send a 3 " + (63 - value) + ";", 2 + value % 16, 64);
            List<int[]> due = Logs.same(y, 0);
            most = Math.max(most, due.get(due.size() - 1)[0]);
        }
        Check.same("two are bad", most, 2);
    }

    /** "as where there are no such four": nothing there, not BAD either. */
    private static void noSuchFour() {
        Run x = Run.of("bird a 4;heard a 0 7 0 9;");
        x.lock(0, 0);
        x.follow(64);
        Check.same("frames of bits 0", x.frame(0, -1, 0), 0);
        Check.same("bad of bits 0", x.bad(0), 0);
        Run ones = Run.of("bird a 4;heard a 0 7 8 9;");
        ones.lock(0, 0);
        ones.follow(64);
        Check.same("a bit of 1", ones.logged(0, 0), 1);
        Check.same("frames of bits 1", ones.frame(0, -1, 0), 0);
        Check.same("bad of bits 1", ones.bad(0), 0);
        Run empty = Run.of("bird a 4;heard a 0 7 0 9;");
        empty.lock(0, 0);
        Check.same("frames of an empty log", empty.frame(0, -1, 0), 0);
        Check.same("bad of an empty log", empty.bad(0), 0);
        Check.same("latest of an empty log", empty.latest(0, 0), -2);
    }

    private static void noisyLogs() {
        int bad = 0;
        int over = 0;
        for (int seed = 0; seed < 40; seed++) {
            Run x = Run.of("bird a 4;bird b 1;heard a 3 6 5 1;heard b 9 8 0 1;send a 1 5;send b 2 44;send b 3 23;"
                + "noise 38;ratio 10;seed " + seed + ";");
            x.lock(0, seed);
            x.lock(1, seed + 1);
            x.follow(64);
            x.follow(1 + seed);
            for (int c = 0; c < 2; c++) {
                List<int[]> due = Logs.same(x, c);
                bad += due.get(due.size() - 1)[0];
                for (int k = 0; k < due.size() - 1; k++) {
                    over += due.get(k)[3];
                }
            }
        }
        Check.yes("bad ones are seen", bad > 10);
        Check.yes("turned ones are seen", over > 0);
    }
}
