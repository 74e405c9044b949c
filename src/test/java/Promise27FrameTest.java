/** Promise 27: frame. What FRAMES are is told in section 3. */
public final class Promise27FrameTest {
    public static void main(String[] args) {
        howMany();
        ofTheKth();
        notSoMany();
        noSuchOnes();
        oneAheadOfTheOther();
        Check.end("Promise27FrameTest");
    }

    private static Run log(int turn, int n) {
        // Locked at period 15, the log begins with bit 16, the second SUBFRAME.
        Run x = Run.of("bird a 4;heard a 0 7 " + turn + " 9;send a 1 5;send a 2 60;send a 0 0;");
        x.lock(0, 15);
        x.follow(n);
        return x;
    }

    /** "k NONE: how many (what is not asked)". */
    private static void howMany() {
        Run x = log(0, 64);
        for (int what : new int[] {0, 1, 2, 3, 4, -1, 77, Integer.MIN_VALUE, Integer.MAX_VALUE}) {
            Check.same("how many, what " + what, x.frame(0, -1, what), 4);
        }
        Check.same("none of 15 bits", log(0, 15).frame(0, -1, 9), 0);
        Check.same("one of 16 bits", log(0, 16).frame(0, -1, 9), 1);
    }

    private static void ofTheKth() {
        Run x = log(0, 64);
        Run over = log(8, 64);
        int[][] due = {{0, 2, 60}, {16, 0, 0}, {32, 1, 5}, {48, 2, 60}};
        for (int k = 0; k < 4; k++) {
            for (int what = 0; what < 3; what++) {
                Check.same("frame " + k + " " + what, x.frame(0, k, what), due[k][what]);
                Check.same("turned over " + k + " " + what, over.frame(0, k, what), due[k][what]);
            }
            Check.same("not turned over " + k, x.frame(0, k, 3), 0);
            Check.same("turned over " + k, over.frame(0, k, 3), 1);
        }
        // Of several channels, of each its own.
        Run two = log(0, 16);
        two.lock(0, 47);
        two.follow(16);
        Check.same("value of the first", two.frame(0, 0, 2), 60);
        Check.same("value of the second", two.frame(1, 0, 2), 5);
        Check.same("value of the first", two.frame(0, 1, 2), 0);
        Check.same("how many of the second", two.frame(1, -1, 0), 1);
    }

    /** "-2: there are not so many". */
    private static void notSoMany() {
        Run x = log(0, 64);
        Check.same("the last one", x.frame(0, 3, 0), 48);
        for (int k : new int[] {4, 5, 64, 65536, Integer.MAX_VALUE}) {
            for (int what = 0; what < 4; what++) {
                Check.same("frame " + k, x.frame(0, k, what), -2);
            }
        }
        Check.same("of none the first", log(0, 15).frame(0, 0, 0), -2);
        Check.same("of one the second", log(0, 31).frame(0, 1, 0), -2);
    }

    private static void noSuchOnes() {
        Run x = log(0, 64);
        for (int k : new int[] {-2, -3, -65536, Integer.MIN_VALUE}) {
            Check.same("frame " + k, x.frame(0, k, 0), -1);
        }
        for (int what : Check.beside(0, 3)) {
            Check.same("what " + what, x.frame(0, 0, what), -1);
        }
        for (int c : Check.beside(0, 0)) {
            Check.same("how many of channel " + c, x.frame(c, -1, 0), -1);
            Check.same("the first of channel " + c, x.frame(c, 0, 0), -1);
        }
        Check.leaves(x, "no such what", -1, o -> o.frame(0, 0, 4));
        Check.same("of a new object", new Run().frame(0, -1, 0), -1);
    }

    /** "NONE goes ahead of -2". */
    private static void oneAheadOfTheOther() {
        Run x = log(0, 64);
        Check.same("no such what, not so many", x.frame(0, 4, 4), -1);
        Check.same("no such what, not so many", x.frame(0, 4, -1), -1);
        Check.same("no such channel, not so many", x.frame(1, 4, 0), -1);
    }
}
