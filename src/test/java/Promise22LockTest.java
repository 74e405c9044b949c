/** Promise 22: lock. */
public final class Promise22LockTest {
    public static void main(String[] args) {
        byThePeak();
        itsNumber();
        theLastPeriod();
        notAcquired();
        fourChannels();
        noSuchOnes();
        oneAheadOfTheOther();
        Check.end("Promise22LockTest");
    }

    private static void channel(Run x, int channel, int... due) {
        for (int what = 0; what < due.length; what++) {
            Check.same("channel " + channel + " " + what, x.channel(channel, what), due[what]);
        }
    }

    /** "POINT: four times its start, its SHIFT, TURN 0, BASE its POWER, the next PERIOD". */
    private static void byThePeak() {
        Run x = Run.of("bird a 4;bird b 9;heard a 61 2 3 5;heard b 7 11 15 5;noise 9;");
        int power = x.hunt(1, 50, 1, 1);
        Check.same("lock 1 50", x.lock(1, 50), 0);
        channel(x, 0, 1, 28, 11, 0, power, 51, 0, -2, 0);
        int other = x.hunt(0, 198, 1, 1);
        Check.same("lock 0 198", x.lock(0, 198), 1);
        channel(x, 1, 0, 244, 2, 0, other, 199, 0, -2, 0);
        channel(x, 0, 1, 28, 11, 0, power, 51, 0, -2, 0);
        Run edges = Run.of("bird a 4;bird b 9;heard a 0 0 3 9;heard b 61 14 15 9;");
        edges.lock(0, 0);
        edges.lock(1, 0);
        channel(edges, 0, 0, 0, 0, 0, edges.hunt(0, 0, 1, 1), 1, 0, -2, 0);
        channel(edges, 1, 1, 244, 14, 0, edges.hunt(1, 0, 1, 1), 1, 0, -2, 0);
        // Not by the START, but by the PEAK: a bird that isn't heard has one, too.
        Run elsewhere = Run.of("bird a 4;bird b 4;heard b 30 9 0 9;");
        Check.same("lock", elsewhere.lock(0, 0), 0);
        channel(elsewhere, 0, 0, 120, 9, 0);
    }

    private static void itsNumber() {
        Run x = Run.of("bird a 4;heard a 61 2 3 9;");
        for (int k = 0; k < 4; k++) {
            Check.same("lock " + k, x.lock(0, 10 * k), k);
            Check.same("channels", x.count(2), k + 1);
            Check.same("its next period", x.channel(k, 5), 10 * k + 1);
        }
        x.drop();
        Check.same("behind drop", x.lock(0, 9), 3);
        x.undo();
        x.undo();
        x.undo();
        Check.same("behind undo", x.lock(0, 9), 3);
    }

    /** "at a PERIOD below 199". */
    private static void theLastPeriod() {
        Run x = Run.of("bird a 4;heard a 61 2 3 9;");
        Check.same("at 198", x.lock(0, 198), 0);
        Check.same("its next period", x.channel(0, 5), 199);
        Check.leaves(x, "at 199", -1, o -> o.lock(0, 199));
        Check.same("at 0", x.lock(0, 0), 1);
        for (int period : Check.beside(0, 198)) {
            Check.same("at " + period, x.lock(0, period), -1);
        }
        Check.same("channels", x.count(2), 2);
        Check.same("what can be undone", x.count(12), 2);
    }

    /** "-2: it is not ACQUIRED". */
    private static void notAcquired() {
        Run x = Run.of("bird a 4;bird b 9;heard a 61 2 3 9;fade a 100;ratio 30;");
        x.lock(0, 99);
        Check.leaves(x, "one that isn't heard", -2, o -> o.lock(1, 0));
        Check.leaves(x, "one that has faded", -2, o -> o.lock(0, 100));
        Run noisy = Run.of("bird a 4;heard a 61 2 3 1;noise 99;ratio 99;");
        Check.leaves(noisy, "one by too much noise", -2, o -> o.lock(0, 5));
        Check.same("no channel", noisy.count(2), 0);
        Check.same("nothing to undo", noisy.count(12), 0);
        // Just as hunt() tells.
        int[] seen = new int[2];
        for (int seed = 0; seed < 40; seed++) {
            Run some = Run.of("bird a 4;heard a 61 2 3 1;noise 55;ratio 13;seed " + seed + ";");
            int acquired = some.hunt(0, 7, 1, 3);
            seen[acquired]++;
            Check.same("lock by seed " + seed, some.lock(0, 7), acquired == 1 ? 0 : -2);
        }
        Check.yes("both are seen", seen[0] > 0 && seen[1] > 0);
    }

    /** "-3: there are four CHANNELS". */
    private static void fourChannels() {
        Run x = Run.of("bird a 4;bird b 3;heard a 61 2 3 9;heard b 9 9 9 9;");
        for (int k = 0; k < 4; k++) {
            Check.same("lock " + k, x.lock(k % 2, k), k);
        }
        Check.leaves(x, "a fifth one", -3, o -> o.lock(0, 4));
        Check.same("four", x.count(2), 4);
        Check.same("what can be undone", x.count(12), 4);
        x.drop();
        Check.same("in place of the last one", x.lock(0, 4), 3);
        Check.leaves(x, "a fifth one again", -3, o -> o.lock(1, 4));
    }

    private static void noSuchOnes() {
        Run x = Run.of("bird a 4;heard a 61 2 3 9;bird b 4;");
        for (int bird : Check.beside(0, 1)) {
            Check.same("lock of bird " + bird, x.lock(bird, 0), -1);
        }
        Check.leaves(x, "no such bird", -1, o -> o.lock(2, 0));
        Check.leaves(x, "no such period", -1, o -> o.lock(0, -1));
        Check.same("of a new object", new Run().lock(0, 0), -1);
    }

    /** "NONE goes ahead of -2, -2 ahead of -3". */
    private static void oneAheadOfTheOther() {
        Run x = Run.of("bird a 4;heard a 61 2 3 9;bird b 4;fade a 100;ratio 30;");
        Check.same("NONE ahead of -2", x.lock(0, 199), -1);
        for (int k = 0; k < 4; k++) {
            x.lock(0, k);
        }
        Check.same("-3", x.lock(0, 4), -3);
        Check.leaves(x, "-2 ahead of -3", -2, o -> o.lock(0, 100));
        Check.same("NONE ahead of -3", x.lock(0, 199), -1);
        Check.same("NONE ahead of -3", x.lock(2, 0), -1);
        Check.same("NONE ahead of both", x.lock(0, 200), -1);
    }
}
