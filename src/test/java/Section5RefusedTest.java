import java.util.NoSuchElementException;

/** Section 5: what goes ahead of what, and "A call that is refused changes nothing". */
public final class Section5RefusedTest {
    private static final String TEXT = "bird a 4;bird b 1;heard a 3 6 5 9;drift a 9;send a 1 5;send a 2 44;noise 9;ratio 20;"
        + "home 1 2 3 4;place a 1 1 1;place b 2 2 2;bird c 7;";

    public static void main(String[] args) {
        refusedOnes();
        refusedWithNothing();
        noneAheadOfTheOthers();
        theExceptions();
        Check.end("Section5RefusedTest");
    }

    /** An object with all that can be lost: channels, ranges, an image, a tape, a fault, something to undo. */
    private static Run full() {
        Run x = Run.of(TEXT);
        for (int k = 0; k < 3; k++) {
            Check.same("lock", x.lock(0, 20 * k), k);
            x.follow(7);
        }
        x.range(0, 30);
        x.keep();
        Check.same("lock", x.lock(0, 7), 3);
        x.measure(3);
        x.tell("noise 100;");
        x.feedText("noise 3;");
        return x;
    }

    private static void refusedOnes() {
        Run x = full();
        for (int k = 1; k < 35; k++) {
            x.feed(0x20202020, 0x20202020, 0x20202020, 0x20202020, 0x20202020);
        }
        Check.leaves(x, "feed", -1, o -> o.feed(1, 1, 1, 1, 1));
        Check.leaves(x, "text of too many", -2, o -> o.text(701));
        Check.leaves(x, "text of less than 0", -2, o -> o.text(-1));
        Check.leaves(x, "fault", -1, o -> o.fault(2));
        Check.leaves(x, "named", -1, o -> o.named(7));
        Check.leaves(x, "hunt", -1, o -> o.hunt(0, 199, 2, 0));
        Check.leaves(x, "listen", -2, o -> o.listen(1, 0));
        Check.leaves(x, "listen", -1, o -> o.listen(3, 0));
        Check.leaves(x, "clear", -1, o -> o.clear(0, 0, 3));
        Check.leaves(x, "limit", -1, o -> o.limit(0, 200));
        Check.leaves(x, "chance", -1, o -> o.chance(0, 0, 11, 0));
        Check.leaves(x, "clearest", -1, o -> o.clearest(0, 199, 2));
        Check.leaves(x, "tune", -1, o -> o.tune(0, 0, 62));
        Check.leaves(x, "lock", -1, o -> o.lock(0, 199));
        Check.leaves(x, "lock", -2, o -> o.lock(2, 0));
        Check.leaves(x, "lock", -3, o -> o.lock(0, 0));
        Run y = full();
        Check.leaves(y, "follow of 0", -1, o -> o.follow(0));
        Check.leaves(y, "follow of 65", -1, o -> o.follow(65));
        Check.leaves(y, "channel", -1, o -> o.channel(4, 0));
        Check.leaves(y, "logged", -1, o -> o.logged(0, 64));
        Check.leaves(y, "frame", -1, o -> o.frame(0, 0, 4));
        Check.leaves(y, "frame", -2, o -> o.frame(0, 4, 0));
        Check.leaves(y, "bad", -1, o -> o.bad(4));
        Check.leaves(y, "errors", -1, o -> o.errors(4));
        Check.leaves(y, "latest", -1, o -> o.latest(0, 4));
        Check.leaves(y, "off", -1, o -> o.off(4));
        Check.leaves(y, "range", -2, o -> o.range(0, 401));
        Check.leaves(y, "range", -2, o -> o.range(3, 0));
        Check.leaves(y, "measure", -1, o -> o.measure(21));
        Check.leaves(y, "fix", -2, o -> o.fix(0));
        Check.leaves(y, "fixWithout", -2, o -> o.fixWithout(0, 0));
        Check.leaves(y, "suspect", -2, o -> o.suspect());
        Check.leaves(y, "spread", -1, o -> o.spread(10000));
        Check.leaves(y, "distance", -2, o -> o.distance(0, 2));
        Check.leaves(y, "tried", -1, o -> o.tried(41, 0));
        Check.leaves(y, "count", -1, o -> o.count(13));
    }

    /** Where there is nothing to take back. */
    private static void refusedWithNothing() {
        Run x = Run.of("bird a 4;place a 1 1 1;");
        Check.leaves(x, "drop", -1, o -> o.drop());
        Check.leaves(x, "undo", -1, o -> o.undo());
        Check.leaves(x, "back", -1, o -> o.back());
        Check.leaves(x, "measure", -2, o -> o.measure(0));
        Check.leaves(x, "text", -2, o -> o.text(1));
        x.range(0, 3);
        x.keep();
        Check.leaves(x, "drop", -1, o -> o.drop());
        Check.leaves(x, "measure", -2, o -> o.measure(0));
    }

    /** "NONE goes ahead of -2, -2 ahead of -3". */
    private static void noneAheadOfTheOthers() {
        Run x = full();
        Check.same("listen", x.listen(1, 200), -1);
        Check.same("lock, not acquired", x.lock(2, 199), -1);
        Check.same("lock, four channels", x.lock(0, 199), -1);
        Check.same("lock, -2 ahead of -3", x.lock(2, 0), -2);
        Check.same("frame", x.frame(0, 60, 4), -1);
        Check.same("latest", x.latest(3, 4), -1);
        Check.same("measure", new Run().measure(21), -1);
        Check.same("fix", x.fix(5), -1);
        Check.same("fixWithout", x.fixWithout(2, 5), -1);
        Check.same("fixWithout", x.fixWithout(3, 0), -1);
        Check.same("spread", x.spread(-1), -1);
        Check.same("distance", x.distance(2, 3), -1);
        Check.same("distance", x.distance(3, 2), -1);
    }

    /** "IndexOutOfBoundsException ahead of NoSuchElementException"; and they change nothing. */
    private static void theExceptions() {
        Run x = full();
        Check.same("no such bird", x.thrown(3, 0), 1);
        Check.same("no such what", x.thrown(0, 11), 2);
        Check.same("neither", x.thrown(3, 11), 1);
        Check.same("neither", x.thrown(-1, -1), 1);
        Check.leaves(x, "no such bird", 1, o -> {
            try {
                return o.bird(3, 11);
            } catch (IndexOutOfBoundsException e) {
                return 1;
            }
        });
        Check.leaves(x, "no such what", 2, o -> {
            try {
                return o.bird(0, 11);
            } catch (NoSuchElementException e) {
                return 2;
            }
        });
    }
}
