/** Promise 24: follow. How a CHANNEL FOLLOWS is told in section 3. */
public final class Promise24FollowTest {
    public static void main(String[] args) {
        howManyByAll();
        oneTo64();
        withoutChannels();
        thoseThatCan();
        noSuchN();
        asMuchAtOnceAsOneByOne();
        Check.end("Promise24FollowTest");
    }

    private static void howManyByAll() {
        Run x = Run.of("bird a 4;bird b 9;heard a 20 7 0 9;heard b 50 3 0 9;ratio 10;");
        for (int k = 1; k <= 4; k++) {
            x.lock(k % 2, 10 * k);
            Check.same("follow 5 by " + k, x.follow(5), 5 * k);
        }
        Check.same("next of the first", x.channel(0, 5), 31);
        Check.same("next of the last", x.channel(3, 5), 46);
        Check.same("bits of the first", x.channel(0, 8), 20);
        Check.same("bits of the last", x.channel(3, 8), 5);
    }

    private static void oneTo64() {
        for (int n = 1; n <= 64; n++) {
            Run x = Run.of("bird a 4;heard a 20 7 0 9;");
            x.lock(0, 3);
            Check.same("follow " + n, x.follow(n), n);
            Check.same("next behind " + n, x.channel(0, 5), 4 + n);
        }
    }

    /** Without CHANNELS none are followed, but it isn't refused. */
    private static void withoutChannels() {
        Run x = Run.of("bird a 4;");
        Check.same("follow of none", x.follow(64), 0);
        Check.same("it can be undone", x.count(12), 1);
        Check.same("of a new object", new Run().follow(1), 0);
    }

    /** "Each CHANNEL that can": not LOST, its next PERIOD below 200. */
    private static void thoseThatCan() {
        Run x = Run.of("bird a 4;bird b 9;heard a 20 7 0 9;heard b 50 3 0 9;fade a 190;");
        x.lock(1, 198);
        x.lock(1, 140);
        x.lock(0, 185);
        // One period; sixty less one; up to 192, in which it is lost.
        Check.same("follow 64", x.follow(64), 1 + 59 + 7);
        Check.same("at the end", x.channel(0, 5), 200);
        Check.same("at the end", x.channel(1, 5), 200);
        Check.same("lost", x.channel(2, 7), 192);
        Check.same("none can", x.follow(64), 0);
        Check.same("it can be undone", x.count(12), 5);
        x.lock(1, 7);
        Check.same("one can", x.follow(2), 2);
    }

    private static void noSuchN() {
        Run x = Run.of("bird a 4;heard a 20 7 0 9;");
        x.lock(0, 3);
        for (int n : Check.beside(1, 64)) {
            Check.leaves(x, "follow " + n, -1, o -> o.follow(n));
        }
        Check.same("what can be undone", x.count(12), 1);
        Check.same("none followed", x.channel(0, 5), 4);
        Check.same("without channels", new Run().follow(0), -1);
        Check.same("without channels", new Run().follow(65), -1);
    }

    private static void asMuchAtOnceAsOneByOne() {
        String text = "bird a 4;bird b 17;heard a 59 6 5 4;heard b 30 9 2 6;drift a 4;send a 2 33;noise 35;ratio 10;";
        Run once = Run.of(text);
        Run oneByOne = Run.of(text);
        for (int k = 0; k < 3; k++) {
            once.lock(k % 2, 5 * k);
            oneByOne.lock(k % 2, 5 * k);
        }
        once.follow(30);
        for (int k = 0; k < 30; k++) {
            oneByOne.follow(1);
        }
        Check.same("the same state", oneByOne.state(), once.state());
    }
}
