/** Promise 26: logged. */
public final class Promise26LoggedTest {
    public static void main(String[] args) {
        theFirstThere();
        noSuchBit();
        ofTheLast64();
        noSuchChannel();
        Check.end("Promise26LoggedTest");
    }

    private static Run followed(int lock, int n) {
        Run x = Run.of("bird a 4;heard a 0 7 0 9;send a 1 5;send a 2 60;");
        x.lock(0, lock);
        x.follow(n);
        return x;
    }

    /** "(0 the first there)": locked at 0, the log begins with BIT 1. */
    private static void theFirstThere() {
        Run x = followed(0, 15);
        String due = "011010001010011";
        for (int i = 0; i < 15; i++) {
            Check.same("bit " + i, x.logged(0, i), due.charAt(i) - '0');
        }
    }

    private static void noSuchBit() {
        for (int n : new int[] {1, 2, 15, 31, 32, 33, 63, 64}) {
            Run x = followed(9, n);
            Check.yes("bit 0 of " + n, x.logged(0, 0) >= 0);
            Check.yes("the last bit of " + n, x.logged(0, n - 1) >= 0);
            for (int i : Check.beside(0, n - 1)) {
                Check.same("bit " + i + " of " + n, x.logged(0, i), -1);
            }
        }
        Run empty = Run.of("bird a 4;heard a 0 7 0 9;");
        empty.lock(0, 0);
        Check.same("of an empty log", empty.logged(0, 0), -1);
        Check.same("of an empty log", empty.logged(0, -1), -1);
    }

    private static void ofTheLast64() {
        Run x = followed(0, 64);
        Check.same("bit 0", x.logged(0, 0), x.bit(0, 1));
        Check.same("bit 63", x.logged(0, 63), x.bit(0, 64));
        Check.same("bit 64", x.logged(0, 64), -1);
        for (int more = 1; more < 20; more++) {
            x.follow(1);
            Check.same("bit 0 behind " + more, x.logged(0, 0), x.bit(0, 1 + more));
            Check.same("bit 63 behind " + more, x.logged(0, 63), x.bit(0, 64 + more));
            Check.same("bit 64 behind " + more, x.logged(0, 64), -1);
        }
    }

    private static void noSuchChannel() {
        Run x = followed(0, 20);
        for (int c : Check.beside(0, 0)) {
            Check.same("channel " + c, x.logged(c, 0), -1);
        }
        Check.leaves(x, "no such channel", -1, o -> o.logged(1, 0));
        Check.leaves(x, "no such bit", -1, o -> o.logged(0, 20));
        Check.same("of a new object", new Run().logged(0, 0), -1);
    }
}
