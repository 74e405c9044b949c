/** Promise 23: drop. */
public final class Promise23DropTest {
    public static void main(String[] args) {
        theLastOneGoes();
        thereIsNone();
        nothingOfItIsLeft();
        Check.end("Promise23DropTest");
    }

    private static void theLastOneGoes() {
        Run x = Run.of("bird a 4;bird b 9;heard a 61 2 3 9;heard b 20 7 0 9;");
        int[] birds = {0, 1, 1, 0};
        for (int k = 0; k < 4; k++) {
            x.lock(birds[k], 3 * k);
        }
        for (int left = 3; left >= 0; left--) {
            Check.same("drop", x.drop(), left);
            Check.same("count", x.count(2), left);
            for (int c = 0; c < 4; c++) {
                Check.same("channel " + c + " of " + left, x.channel(c, 0), c < left ? birds[c] : -1);
                Check.same("its next period", x.channel(c, 5), c < left ? 3 * c + 1 : -1);
            }
        }
        // One that is lost goes as well.
        Run lost = Run.of("bird a 4;heard a 20 7 0 9;fade a 3;");
        lost.lock(0, 0);
        lost.follow(9);
        Check.same("it is lost", lost.count(3), 1);
        Check.same("drop", lost.drop(), 0);
        Check.same("none is lost", lost.count(3), 0);
    }

    /** "NONE: there is none". */
    private static void thereIsNone() {
        Check.same("of a new object", new Run().drop(), -1);
        Run x = Run.of("bird a 4;heard a 61 2 3 9;");
        Check.leaves(x, "none yet", -1, o -> o.drop());
        Check.same("nothing to undo", x.count(12), 0);
        x.lock(0, 0);
        Check.same("the only one", x.drop(), 0);
        Check.leaves(x, "none any more", -1, o -> o.drop());
        Check.same("two to undo", x.count(12), 2);
        x.tell("bird a 4;");
        Check.same("none behind a text", x.drop(), -1);
    }

    private static void nothingOfItIsLeft() {
        Run x = Run.of("bird a 4;heard a 20 7 3 9;fade a 50;");
        x.lock(0, 30);
        x.follow(40);
        Check.same("lost", x.channel(0, 7), 52);
        x.drop();
        Check.same("lock again", x.lock(0, 9), 0);
        int[] due = {0, 80, 7, 0, x.hunt(0, 9, 1, 1), 10, 0, -2, 0};
        for (int what = 0; what < due.length; what++) {
            Check.same("channel 0 " + what, x.channel(0, what), due[what]);
        }
        Check.same("no old log", x.logged(0, 0), -1);
        Check.same("it can follow", x.follow(3), 3);
        Check.same("bits", x.channel(0, 8), 3);
    }
}
