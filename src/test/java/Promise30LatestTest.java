/** Promise 30: latest. What FRAMES are is told in section 3. */
public final class Promise30LatestTest {
    public static void main(String[] args) {
        theLastOfAKind();
        eachKind();
        thereIsNone();
        noSuchKind();
        noSuchChannel();
        Check.end("Promise30LatestTest");
    }

    private static void theLastOfAKind() {
        Run x = Run.of("bird a 4;heard a 0 7 0 9;send a 1 5;send a 2 60;send a 1 33;");
        x.lock(0, 15);
        // Frames end with 16, 32, 48, 64 bits: VALUES 60, 33, 5, 60.
        int[] bits = {15, 16, 31, 32, 47, 48, 63, 64};
        int[] ofKind1 = {-2, -2, -2, 33, 33, 5, 5, 5};
        int[] ofKind2 = {-2, 60, 60, 60, 60, 60, 60, 60};
        int followed = 0;
        for (int k = 0; k < bits.length; k++) {
            x.follow(bits[k] - followed);
            followed = bits[k];
            Check.same("latest 1 of " + followed, x.latest(0, 1), ofKind1[k]);
            Check.same("latest 2 of " + followed, x.latest(0, 2), ofKind2[k]);
        }
        x.follow(16);
        Check.same("the oldest one has gone, a newer 33 is there", x.latest(0, 1), 33);
    }

    private static void eachKind() {
        Run x = Run.of("bird a 4;heard a 0 7 8 9;send a 0 0;send a 1 63;send a 2 1;send a 3 32;");
        x.lock(0, 15);
        x.follow(64);
        int[] due = {0, 63, 1, 32};
        for (int kind = 0; kind < 4; kind++) {
            Check.same("latest " + kind, x.latest(0, kind), due[kind]);
        }
    }

    /** "-2: there is none". */
    private static void thereIsNone() {
        Run x = Run.of("bird a 4;heard a 0 7 0 9;send a 1 5;");
        x.lock(0, 15);
        for (int kind = 0; kind < 4; kind++) {
            Check.same("latest " + kind + " of an empty log", x.latest(0, kind), -2);
        }
        x.follow(15);
        Check.same("of 15 bits", x.latest(0, 1), -2);
        x.follow(17);
        Check.same("latest 1", x.latest(0, 1), 5);
        Check.leaves(x, "latest 0", -2, o -> o.latest(0, 0));
        Check.same("latest 2", x.latest(0, 2), -2);
        Check.same("latest 3", x.latest(0, 3), -2);
    }

    private static void noSuchKind() {
        Run x = Run.of("bird a 4;heard a 0 7 0 9;send a 0 5;send a 3 6;");
        x.lock(0, 15);
        x.follow(32);
        Check.same("kind 0", x.latest(0, 0), 5);
        Check.same("kind 3", x.latest(0, 3), 6);
        for (int kind : Check.beside(0, 3)) {
            Check.same("kind " + kind, x.latest(0, kind), -1);
        }
        x.lock(0, 3);
        Check.same("NONE ahead of -2", x.latest(1, 4), -1);
    }

    private static void noSuchChannel() {
        Run x = Run.of("bird a 4;heard a 0 7 0 9;send a 0 5;send a 3 6;");
        x.lock(0, 15);
        x.follow(32);
        for (int c : Check.beside(0, 0)) {
            Check.same("latest of " + c, x.latest(c, 0), -1);
        }
        Check.leaves(x, "no such channel", -1, o -> o.latest(1, 0));
        Check.same("of a new object", new Run().latest(0, 0), -1);
    }
}
