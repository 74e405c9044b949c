/** Promise 41: keep; and what an IMAGE keeps, of section 5. */
public final class Promise41KeepTest {
    private static final String TEXT = "bird a 4;bird b 1;heard a 3 6 5 9;heard b 9 8 0 8;ratio 10;fade b 30;";

    public static void main(String[] args) {
        howManyChannels();
        itChangesNothing();
        channelsAndRanges();
        inPlaceOfOneAhead();
        itIsApart();
        Check.end("Promise41KeepTest");
    }

    private static void howManyChannels() {
        Check.same("of a new object", new Run().keep(), 0);
        Run x = Run.of(TEXT);
        for (int channels = 0; channels <= 4; channels++) {
            Check.same("keep", x.keep(), channels);
            Check.same("keep again", x.keep(), channels);
            x.lock(channels % 2, channels);
        }
    }

    private static void itChangesNothing() {
        Run x = Run.of(TEXT);
        x.lock(0, 5);
        x.range(1, 6);
        String was = x.state();
        Check.same("keep", x.keep(), 1);
        Check.same("state", x.state(), was);
        Check.same("what can be undone", x.count(12), 2);
        Check.same("undo", x.undo(), 1);
    }

    /** "An IMAGE keeps CHANNELS, RANGES": with their logs, and those that are lost. */
    private static void channelsAndRanges() {
        Run x = Run.of(TEXT);
        x.lock(1, 5);
        x.lock(0, 7);
        x.follow(64);
        x.range(0, 0);
        x.range(1, 400);
        Check.same("lost", x.count(3), 1);
        String was = x.state();
        x.keep();
        x.follow(64);
        x.drop();
        x.drop();
        x.range(0, -1);
        x.range(1, 5);
        x.lock(0, 100);
        Check.same("back", x.back(), 2);
        Check.same("as kept", x.state(), was);
    }

    private static void inPlaceOfOneAhead() {
        Run x = Run.of(TEXT);
        x.lock(0, 5);
        x.range(0, 7);
        x.keep();
        x.lock(1, 6);
        x.range(0, 8);
        String was = x.state();
        Check.same("another one", x.keep(), 2);
        x.drop();
        x.drop();
        x.range(0, 9);
        Check.same("back to that", x.back(), 2);
        Check.same("as kept", x.state(), was);
        x.drop();
        x.drop();
        x.range(0, -1);
        Check.same("an empty one", x.keep(), 0);
        x.lock(0, 5);
        x.range(0, 3);
        Check.same("back to the empty one", x.back(), 0);
        Check.same("no channels", x.count(2), 0);
        Check.same("no ranges", x.count(6), 0);
    }

    /** What is done behind keep() isn't done to the IMAGE, undo() neither. */
    private static void itIsApart() {
        Run x = Run.of(TEXT);
        x.lock(0, 5);
        x.follow(3);
        x.range(0, 7);
        String was = x.state();
        x.keep();
        x.undo();
        x.undo();
        x.undo();
        Check.same("no channel", x.count(2), 0);
        Check.same("back", x.back(), 1);
        Check.same("as kept", x.state(), was);
        x.follow(9);
        x.range(0, 8);
        x.tried(9, 1);
        x.back();
        Check.same("as kept again", x.state(), was);
    }
}
