/** Promise 42: back. What an IMAGE keeps is told by promise 41. */
public final class Promise42BackTest {
    private static final String TEXT = "bird a 4;bird b 1;heard a 3 6 5 9;heard b 9 8 0 8;ratio 10;";

    public static void main(String[] args) {
        asInTheImage();
        itStays();
        nothingIsUndoneBehindIt();
        thereIsNone();
        allElseStays();
        Check.end("Promise42BackTest");
    }

    private static Run kept() {
        Run x = Run.of(TEXT);
        x.lock(0, 5);
        x.follow(9);
        x.range(1, 7);
        Check.same("keep", x.keep(), 1);
        return x;
    }

    private static void asInTheImage() {
        Run x = kept();
        String was = x.state();
        Check.same("at once", x.back(), 1);
        Check.same("state", x.state(), was);
        x.lock(1, 8);
        x.lock(1, 9);
        x.follow(30);
        x.range(1, 300);
        x.range(0, 55);
        Check.same("back", x.back(), 1);
        Check.same("state", x.state(), was);
        Check.same("one of them has a range", x.count(6), 1);
        Check.same("how many follow", x.follow(1), 1);
        Run empty = Run.of(TEXT);
        empty.keep();
        empty.lock(0, 3);
        empty.range(0, 3);
        Check.same("back to none", empty.back(), 0);
        Check.same("as of a new one", empty.state(), Run.of(TEXT).state());
    }

    /** "(it stays)". */
    private static void itStays() {
        Run x = kept();
        String was = x.state();
        for (int k = 0; k < 3; k++) {
            x.follow(5);
            x.range(1, k);
            x.drop();
            Check.same("back " + k, x.back(), 1);
            Check.same("state " + k, x.state(), was);
        }
    }

    /** "nothing can be undone behind back()". */
    private static void nothingIsUndoneBehindIt() {
        Run x = kept();
        Check.same("ahead of it", x.count(12), 3);
        x.back();
        Check.same("behind it", x.count(12), 0);
        Check.same("undo", x.undo(), -1);
        x.range(0, 9);
        Check.same("one", x.count(12), 1);
        Check.same("undo that", x.undo(), 0);
        Check.same("as in the image", x.range(1, 7), 7);
        Check.same("it had none", x.range(0, 7), -1);
    }

    /** "NONE: there is none", behind a text neither. */
    private static void thereIsNone() {
        Check.leaves(new Run(), "of a new object", -1, o -> o.back());
        Run x = Run.of(TEXT);
        x.lock(0, 5);
        x.range(0, 5);
        Check.leaves(x, "without keep", -1, o -> o.back());
        Check.same("what can be undone", x.count(12), 2);
        x.keep();
        x.text(1);
        Check.same("behind text -2", x.copy().back(), 1);
        x.tell("?");
        Check.same("behind a fault", x.copy().back(), 1);
        x.tell(TEXT);
        Check.leaves(x, "behind a text", -1, o -> o.back());
        x.keep();
        x.text(0);
        Check.same("behind an empty text", x.back(), -1);
    }

    /** CHANNELS, RANGES alone: neither the TEXT nor the TAPE nor the FAULT. */
    private static void allElseStays() {
        Run x = kept();
        x.tell("?");
        x.feedText("noise 7;");
        Check.same("back", x.back(), 1);
        Check.same("fault", x.fault(0), 1);
        Check.same("tape", x.count(11), 20);
        Check.same("birds", x.count(0), 2);
        Check.same("text", x.text(8), 1);
    }
}
