/** Promise 31: off. */
public final class Promise31OffTest {
    public static void main(String[] args) {
        theFewerWay();
        thePointBy4();
        theStartModulo62();
        theNextPeriod();
        of200ThatOf199();
        notHeard();
        noSuchChannel();
        Check.end("Promise31OffTest");
    }

    /** One of its code is louder elsewhere: the channel of a is at b's start. */
    private static Run pair(int start, int other, String more) {
        Run x = Run.of("bird a 4;bird b 4;heard a " + start + " 7 0 1;heard b " + other + " 7 0 9;" + more);
        Check.same("lock", x.lock(0, 0), 0);
        Check.same("point", x.channel(0, 1), 4 * other);
        return x;
    }

    /** "0 .. 31 (around: the fewer way)". */
    private static void theFewerWay() {
        int[][] starts = {{20, 20, 0}, {20, 25, 5}, {25, 20, 5}, {60, 3, 5}, {3, 60, 5}, {0, 61, 1}, {61, 0, 1},
            {0, 31, 31}, {31, 0, 31}, {61, 30, 31}, {0, 30, 30}, {0, 32, 30}, {32, 0, 30}, {15, 50, 27}, {0, 33, 29}};
        for (int[] one : starts) {
            Check.same("off, " + one[0] + " and " + one[1], pair(one[0], one[1], "").off(0), one[2]);
        }
    }

    /** "POINT by 4": quarters don't count. */
    private static void thePointBy4() {
        Run x = Run.of("bird a 4;heard a 20 7 0 9;drift a 20;");
        x.lock(0, 0);
        x.follow(18);
        Check.same("point", x.channel(0, 1), 80);
        Check.same("ahead of the drift", x.off(0), 0);
        x.follow(1);
        Check.same("the next period has drifted", x.off(0), 1);
        for (int quarter = 1; quarter <= 3; quarter++) {
            x.follow(1);
            Check.same("point", x.channel(0, 1), 80 + quarter);
            Check.same("off behind " + quarter + " quarters", x.off(0), 1);
        }
        x.follow(1);
        Check.same("point", x.channel(0, 1), 84);
        Check.same("off behind four", x.off(0), 0);
        // A point of 247 is start 61.
        Run down = Run.of("bird a 4;bird b 4;heard a 0 7 0 9;heard b 61 7 0 4;");
        down.lock(0, 0);
        down.follow(1);
        Check.same("point", down.channel(0, 1), 247);
        Check.same("off", down.off(0), 1);
    }

    /** "the START (modulo 62)". */
    private static void theStartModulo62() {
        // In period 1 the START is 62, that is 0; in period 5 by drift 1 it is 66, 4.
        Check.same("62", pair(61, 20, "drift a 1;").off(0), 20);
        Run x = Run.of("bird a 4;bird b 4;heard a 61 7 0 1;heard b 20 7 0 9;drift a 1;");
        x.lock(0, 190);
        // 61 and 191 is 252, modulo 62 it is 4.
        Check.same("252", x.off(0), 16);
        x.lock(0, 123);
        // 61 and 124 is 185, modulo 62 it is 61.
        Check.same("185", x.off(1), 21);
        x.lock(0, 124);
        Check.same("186", x.off(2), 20);
    }

    private static void theNextPeriod() {
        Run x = Run.of("bird a 4;bird b 4;heard a 10 7 0 1;heard b 30 7 0 9;drift a 10;");
        x.lock(0, 8);
        Check.same("next is 9", x.off(0), 20);
        x.lock(0, 9);
        Check.same("next is 10", x.off(1), 19);
        x.follow(1);
        Check.same("followed to 10", x.off(0), 19);
        x.undo();
        Check.same("back to 9", x.off(0), 20);
    }

    /** "(if that is 200: in 199)". */
    private static void of200ThatOf199() {
        Run x = Run.of("bird a 4;bird b 4;heard a 60 7 0 1;heard b 30 7 0 9;drift a 1;");
        x.lock(0, 198);
        // 60 and 199 is 259, modulo 62 it is 11.
        Check.same("next is 199", x.off(0), 19);
        x.follow(1);
        Check.same("next is 200", x.channel(0, 5), 200);
        Check.same("point", x.channel(0, 1) / 4, 30);
        Check.same("in 199", x.off(0), 19);
        // Ten times 20 periods are through by 200, nine by 199.
        Run ten = Run.of("bird a 4;bird b 4;heard a 0 7 0 1;heard b 30 7 0 9;drift a 20;");
        ten.lock(0, 198);
        ten.follow(1);
        Check.same("nine and not ten", ten.off(0), 21);
    }

    /** "-2: it is not heard". */
    private static void notHeard() {
        Run x = Run.of("bird a 4;bird b 4;heard b 30 7 0 9;");
        x.lock(0, 0);
        Check.leaves(x, "off", -2, o -> o.off(0));
        x.follow(3);
        Check.same("off", x.off(0), -2);
        x.lock(1, 0);
        Check.same("of the one heard", x.off(1), 0);
        Run faded = Run.of("bird a 4;heard a 30 7 0 9;fade a 3;");
        faded.lock(0, 0);
        faded.follow(9);
        Check.same("one that has faded is heard", faded.off(0), 0);
    }

    private static void noSuchChannel() {
        Run x = Run.of("bird a 4;heard a 30 7 0 9;");
        x.lock(0, 0);
        for (int c : Check.beside(0, 0)) {
            Check.same("off of " + c, x.off(c), -1);
        }
        Check.leaves(x, "no such channel", -1, o -> o.off(1));
        Check.same("of a new object", new Run().off(0), -1);
    }
}
