/** Promise 39: tried. */
public final class Promise39TriedTest {
    private static final String TEXT = "bird a 4;bird b 1;heard a 3 6 5 2;heard b 9 8 0 2;send a 1 5;send b 2 44;"
        + "noise 20;ratio 10;";

    public static void main(String[] args) {
        asFollowTells();
        howManyAreLost();
        framesInAllLogs();
        badPlaces();
        thoseThatCan();
        withoutChannels();
        nothingIsChanged();
        noSuchOnes();
        Check.end("Promise39TriedTest");
    }

    private static int frames(Run x) {
        int frames = 0;
        for (int c = 0; c < x.count(2); c++) {
            frames += x.frame(c, -1, 0);
        }
        return frames;
    }

    private static int bad(Run x) {
        int bad = 0;
        for (int c = 0; c < x.count(2); c++) {
            bad += x.bad(c);
        }
        return bad;
    }

    private static void asFollowTells() {
        for (int seed = 0; seed < 8; seed++) {
            Run x = Run.of(TEXT + "fade a 60;seed " + seed + ";");
            x.lock(0, 5);
            x.lock(1, 30);
            x.lock(1, 190);
            x.lock(0, 40);
            for (int n : new int[] {1, 16, 31, 40}) {
                int[] tried = {x.tried(n, 0), x.tried(n, 1), x.tried(n, 2)};
                x.follow(n);
                Check.same("lost by " + n, tried[0], x.count(3));
                Check.same("frames by " + n, tried[1], frames(x));
                Check.same("bad by " + n, tried[2], bad(x));
                x.undo();
            }
        }
    }

    private static void howManyAreLost() {
        Run x = Run.of("bird a 4;heard a 20 7 0 9;fade a 10;");
        x.lock(0, 7);
        Check.same("not yet", x.tried(4, 0), 0);
        Check.same("by then", x.tried(5, 0), 1);
        Check.same("long ago", x.tried(40, 0), 1);
        x.lock(0, 8);
        Check.same("one of two", x.tried(4, 0), 1);
        Check.same("two of two", x.tried(5, 0), 2);
        x.follow(5);
        Check.same("lost already", x.tried(1, 0), 2);
    }

    private static void framesInAllLogs() {
        Run x = Run.of("bird a 4;heard a 0 7 0 9;send a 1 5;");
        x.lock(0, 15);
        Check.same("15 bits", x.tried(15, 1), 0);
        Check.same("16 bits", x.tried(16, 1), 1);
        Check.same("40 bits", x.tried(40, 1), 2);
        x.follow(8);
        Check.same("7 bits more", x.tried(7, 1), 0);
        Check.same("8 bits more", x.tried(8, 1), 1);
        x.lock(0, 31);
        Check.same("both", x.tried(16, 1), 2);
        Check.same("both", x.tried(40, 1), 3 + 2);
        // Those in the log already count, and those that leave it don't.
        x.drop();
        x.follow(56);
        Check.same("64 bits", x.frame(0, -1, 0), 4);
        Check.same("one bit more", x.tried(1, 1), 3);
    }

    private static void badPlaces() {
        Run x = Run.of("bird a 4;heard a 0 7 0 9;send a 1 5;");
        x.lock(0, 0);
        Check.same("18 bits", x.tried(18, 2), 0);
        Check.same("19 bits", x.tried(19, 2), 1);
        Check.same("24 bits", x.tried(24, 2), 1);
        Check.same("25 bits", x.tried(25, 2), 2);
        x.lock(0, 16);
        Check.same("both", x.tried(25, 2), 4);
    }

    /** "all CHANNELS that can". */
    private static void thoseThatCan() {
        Run x = Run.of("bird a 4;heard a 0 7 0 9;send a 1 5;");
        x.lock(0, 183);
        x.follow(10);
        // Up to 199 there are 16 bits, of which the frame begins with the ninth.
        Check.same("up to the end", x.tried(40, 1), 0);
        x.lock(0, 15);
        x.follow(16);
        x.drop();
        x.lock(0, 175);
        Check.same("24 bits up to the end", x.tried(40, 1), Logs.read(ahead(x, 40)).size() - 1);
    }

    /** The log of channel 1 as it would be. */
    private static String ahead(Run x, int n) {
        Run copy = x.copy();
        copy.follow(n);
        return Logs.log(copy, 1);
    }

    private static void withoutChannels() {
        for (int what = 0; what < 3; what++) {
            Check.same("of a new object", new Run().tried(1, what), 0);
            Check.same("without channels", Run.of(TEXT).tried(40, what), 0);
        }
    }

    private static void nothingIsChanged() {
        Run x = Run.of(TEXT + "fade a 9;");
        x.lock(0, 5);
        x.lock(1, 3);
        x.follow(3);
        x.keep();
        Run copy = x.copy();
        copy.follow(40);
        int[] due = {copy.count(3), frames(copy), bad(copy)};
        for (int what = 0; what < 3; what++) {
            int asked = what;
            Check.leaves(x, "tried " + what, due[what], o -> o.tried(40, asked));
        }
        Check.same("what can be undone", x.count(12), 3);
    }

    private static void noSuchOnes() {
        Run x = Run.of(TEXT);
        x.lock(0, 5);
        for (int n : Check.beside(1, 40)) {
            for (int what = 0; what < 3; what++) {
                Check.same("tried " + n + " " + what, x.tried(n, what), -1);
            }
        }
        for (int what : Check.beside(0, 2)) {
            Check.same("tried what " + what, x.tried(1, what), -1);
            Check.same("without channels, what " + what, new Run().tried(1, what), -1);
        }
        Check.yes("tried 1", x.tried(1, 0) >= 0);
        Check.yes("tried 40", x.tried(40, 2) >= 0);
        Check.same("without channels, none", new Run().tried(0, 0), -1);
        Check.leaves(x, "no such n", -1, o -> o.tried(41, 0));
    }
}
