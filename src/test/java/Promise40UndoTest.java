/** Promise 40: undo; and UNDO of section 5. */
public final class Promise40UndoTest {
    private static final String TEXT = "bird a 4;bird b 1;heard a 3 6 5 2;heard b 9 8 0 2;send a 1 5;send b 2 44;"
        + "noise 20;ratio 10;home 1 2 3 4;place a 1 1 1;fade b 30;";

    public static void main(String[] args) {
        eachOfThem();
        theLatestFirst();
        tenAtMost();
        refusedOnesDontCount();
        othersDontCount();
        noneCould();
        undoneAndDoneAgain();
        Check.end("Promise40UndoTest");
    }

    /** lock(), drop(), follow(), range(), measure(): behind undo() CHANNELS, RANGES are as ahead of it. */
    private static void eachOfThem() {
        Run x = Run.of(TEXT);
        x.lock(0, 5);
        x.follow(20);
        x.range(1, 7);
        each(x, "lock", () -> x.lock(1, 3));
        each(x, "drop", () -> x.drop());
        each(x, "follow", () -> x.follow(64));
        each(x, "range", () -> x.range(1, 8));
        each(x, "range to none", () -> x.range(1, -1));
        each(x, "range to what it was", () -> x.range(1, 7));
        each(x, "range of one without", () -> x.range(0, 9));
        each(x, "measure", () -> x.measure(2));
        Run none = Run.of(TEXT);
        each(none, "lock of the first", () -> none.lock(1, 3));
        each(none, "follow without channels", () -> none.follow(1));
        Run lost = Run.of(TEXT);
        lost.lock(1, 20);
        each(lost, "follow to where it is lost", () -> lost.follow(40));
        lost.follow(40);
        each(lost, "follow of a lost one", () -> lost.follow(40));
        each(lost, "drop of a lost one", () -> lost.drop());
    }

    private static void each(Run x, String what, Runnable change) {
        String was = x.state();
        int before = x.count(12);
        change.run();
        Check.same(what + " can be undone", x.count(12), before + 1);
        Check.same(what + " undone", x.undo(), before);
        Check.same("behind " + what, x.state(), was);
        Check.same("so many are left", x.count(12), before);
    }

    private static void theLatestFirst() {
        Run x = Run.of(TEXT);
        String[] states = new String[11];
        for (int k = 0; k < 10; k++) {
            states[k] = x.state();
            switch (k) {
                case 0: x.lock(0, 5); break;
                case 1: x.follow(20); break;
                case 2: x.range(1, 7); break;
                case 3: x.lock(1, 7); break;
                case 4: x.measure(5); break;
                case 5: x.follow(40); break;
                case 6: x.drop(); break;
                case 7: x.range(0, 400); break;
                case 8: x.drop(); break;
                default: x.follow(1); break;
            }
        }
        for (int k = 9; k >= 0; k--) {
            Check.same("undo", x.undo(), k);
            Check.same("state " + k, x.state(), states[k]);
        }
        Check.same("none", x.undo(), -1);
    }

    /** "10 at most". */
    private static void tenAtMost() {
        Run x = Run.of("bird a 4;");
        for (int k = 1; k <= 25; k++) {
            x.range(0, k);
            Check.same("can be undone", x.count(12), Math.min(10, k));
        }
        for (int k = 9; k >= 0; k--) {
            Check.same("undo", x.undo(), k);
            Check.same("can be undone", x.count(12), k);
        }
        Check.same("an eleventh", x.undo(), -1);
        Check.same("the fifteenth stays", x.range(0, 99), 15);
        Check.same("one", x.count(12), 1);
        Run eleven = Run.of("bird a 4;");
        for (int k = 1; k <= 11; k++) {
            eleven.range(0, k);
        }
        for (int k = 9; k >= 0; k--) {
            Check.same("undo", eleven.undo(), k);
        }
        Check.same("the first one of eleven stays", eleven.range(0, 0), 1);
        // Done and undone by turns, 58 times in all.
        Run around = Run.of("bird a 4;");
        around.range(0, 99);
        for (int k = 0; k < 19; k++) {
            around.range(0, 100 + k);
            around.range(0, 200 + k);
            around.undo();
            around.range(0, 300 + k);
            around.undo();
        }
        Check.same("ten less one undone", around.count(12), 9);
        for (int k = 8; k >= 0; k--) {
            Check.same("undo", around.undo(), k);
            Check.same("as it was", around.copy().range(0, 0), 109 + k);
        }
        Check.same("none", around.undo(), -1);
    }

    /** "that weren't refused". */
    private static void refusedOnesDontCount() {
        Run x = Run.of("bird a 4;noise 9;ratio 99;");
        Check.same("lock: NONE", x.lock(0, 199), -1);
        Check.same("lock: -2", x.lock(0, 0), -2);
        Check.same("drop", x.drop(), -1);
        Check.same("follow", x.follow(0), -1);
        Check.same("range", x.range(0, 401), -2);
        Check.same("measure: NONE", x.measure(21), -1);
        Check.same("measure: -2", x.measure(0), -2);
        Check.same("nothing to undo", x.count(12), 0);
        Check.same("undo", x.undo(), -1);
        Run four = Run.of("bird a 4;heard a 3 6 5 9;");
        for (int k = 0; k < 5; k++) {
            four.lock(0, k);
        }
        Check.same("lock: -3", four.count(12), 4);
        Check.same("undo", four.undo(), 3);
        Check.same("three channels", four.count(2), 3);
    }

    /** Nor do other calls: neither undo() itself nor keep(), tried() and those that only ask. */
    private static void othersDontCount() {
        Run x = Run.of(TEXT);
        x.range(0, 5);
        x.keep();
        x.tried(3, 0);
        x.feed(0, 0, 0, 0, 0);
        x.hunt(0, 0, 1, 0);
        Check.same("one", x.count(12), 1);
        Check.same("undo", x.undo(), 0);
        Check.same("an undo isn't undone", x.undo(), -1);
        Check.same("it had none", x.range(0, 5), -1);
    }

    /** "NONE: none could", behind text() and back(), too. */
    private static void noneCould() {
        Check.leaves(new Run(), "of a new object", -1, o -> o.undo());
        Run x = Run.of(TEXT);
        x.lock(0, 5);
        x.keep();
        x.follow(3);
        Check.same("back", x.back(), 1);
        Check.leaves(x, "behind back", -1, o -> o.undo());
        Check.same("the channel stays", x.count(2), 1);
        x.range(0, 5);
        Check.same("what came behind back", x.undo(), 0);
        Check.same("none more", x.undo(), -1);
        x.range(0, 5);
        Check.same("a text", x.tell(TEXT), 11);
        Check.leaves(x, "behind text", -1, o -> o.undo());
        x.range(0, 5);
        Check.same("a text with a fault", x.tell("?"), -1);
        Check.same("text that is too long", x.text(9), -2);
        Check.same("behind them", x.undo(), 0);
        Check.same("it had none", x.range(0, 5), -1);
        Run noImage = Run.of(TEXT);
        noImage.range(0, 5);
        Check.same("back without an image", noImage.back(), -1);
        Check.same("behind it", noImage.undo(), 0);
    }

    private static void undoneAndDoneAgain() {
        Run x = Run.of(TEXT);
        x.lock(0, 5);
        x.follow(20);
        String was = x.state();
        x.undo();
        x.follow(20);
        Check.same("followed again", x.state(), was);
        x.undo();
        x.undo();
        x.lock(0, 5);
        x.follow(20);
        Check.same("locked again", x.state(), was);
        Check.same("two", x.count(12), 2);
    }
}
