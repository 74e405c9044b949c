/** Promise 25: channel. */
public final class Promise25ChannelTest {
    public static void main(String[] args) {
        all();
        thePeriodInWhichItWasLost();
        noSuchChannel();
        noSuchWhat();
        Check.end("Promise25ChannelTest");
    }

    private static void all() {
        Run x = Run.of("bird z 1;bird a 4;heard a 61 13 4 8;");
        Check.same("lock", x.lock(1, 7), 0);
        int[] due = {1, 244, 13, 0, x.hunt(1, 7, 1, 1), 8, 0, -2, 0};
        for (int what = 0; what < due.length; what++) {
            Check.same("channel 0 " + what, x.channel(0, what), due[what]);
        }
        x.follow(3);
        Check.yes("a turn", x.channel(0, 3) != 0);
        Check.same("the next period", x.channel(0, 5), 11);
        Check.same("bits", x.channel(0, 8), 3);
        Check.same("the base stays", x.channel(0, 4), due[4]);
    }

    /** "(-2: it is not)". */
    private static void thePeriodInWhichItWasLost() {
        Run x = Run.of("bird a 4;heard a 20 7 0 9;fade a 1;");
        x.lock(0, 0);
        for (int k = 1; k <= 3; k++) {
            Check.same("not lost", x.channel(0, 7), -2);
            Check.same("weak", x.channel(0, 6), k - 1);
            x.follow(1);
        }
        Check.same("lost", x.channel(0, 7), 3);
        Check.same("weak", x.channel(0, 6), 3);
        x.undo();
        Check.same("not lost any more", x.channel(0, 7), -2);
    }

    private static void noSuchChannel() {
        Run x = Run.of("bird a 4;heard a 60 7 0 9;");
        for (int channels = 0; channels <= 4; channels++) {
            for (int c : Check.beside(0, channels - 1)) {
                for (int what = 0; what <= 8; what++) {
                    Check.same("channel " + c + " of " + channels, x.channel(c, what), -1);
                }
            }
            if (channels > 0) {
                Check.same("the last one", x.channel(channels - 1, 1), 240);
            }
            x.lock(0, 3);
        }
    }

    private static void noSuchWhat() {
        Run x = Run.of("bird a 4;heard a 60 7 0 9;");
        x.lock(0, 3);
        x.follow(7);
        Check.same("what 8", x.channel(0, 8), 7);
        for (int what : Check.beside(0, 8)) {
            Check.same("what " + what, x.channel(0, what), -1);
        }
        Check.leaves(x, "no such what", -1, o -> o.channel(0, 9));
    }
}
