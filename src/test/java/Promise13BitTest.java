/** Promise 13: bit. What BITS are is told in section 2. */
public final class Promise13BitTest {
    public static void main(String[] args) {
        theFirstAndTheLast();
        heardOrNot();
        noSuchNumber();
        noSuchBird();
        Check.end("Promise13BitTest");
    }

    private static void theFirstAndTheLast() {
        // 1011 01 000101 0011: number 199 is the eighth of its SUBFRAME (the thirteenth of them).
        Run x = Run.of("bird a 0;bird b 3;send b 1 5;send b 3 63;");
        Check.same("bit 0", x.bit(1, 0), 1);
        Check.same("bit 1", x.bit(1, 1), 0);
        Check.same("bit 15", x.bit(1, 15), 1);
        Check.same("bit 16", x.bit(1, 16), 1);
        Check.same("bit 31", x.bit(1, 31), 1);
        Check.same("bit 30", x.bit(1, 30), 0);
        Check.same("bit 32", x.bit(1, 32), 1);
        Check.same("bit 33", x.bit(1, 33), 0);
        Check.same("bit 198", x.bit(1, 198), 0);
        Check.same("bit 199", x.bit(1, 199), 0);
        Check.same("bit 197", x.bit(1, 197), 1);
        Check.same("bit 0 of none sent", x.bit(0, 0), 0);
        Check.same("bit 199 of none sent", x.bit(0, 199), 0);
    }

    /** "(heard or not)", and whatever START, drift and fade are. */
    private static void heardOrNot() {
        Run x = Run.of("bird a 0;bird b 0;send a 2 44;send b 2 44;heard a 61 3 4 5;drift a 1;fade a 1;");
        for (int number = 0; number < 200; number++) {
            Check.same("bit " + number, x.bit(0, number), x.bit(1, number));
        }
        Check.same("bit 199", x.bit(0, 199), "1011101011000010".charAt(199 % 16) - '0');
    }

    private static void noSuchNumber() {
        Run x = Run.of("bird a 0;send a 3 63;bird b 0;");
        for (int number : Check.beside(0, 199)) {
            Check.same("bit " + number, x.bit(0, number), -1);
            Check.same("bit " + number + " of none sent", x.bit(1, number), -1);
        }
    }

    private static void noSuchBird() {
        Run x = Run.of("bird a 0;send a 3 63;bird b 0;send b 3 63;");
        Check.same("the last one", x.bit(1, 0), 1);
        for (int bird : Check.beside(0, 1)) {
            Check.same("bit of bird " + bird, x.bit(bird, 0), -1);
            Check.same("bit 200 of bird " + bird, x.bit(bird, 200), -1);
        }
        Check.same("of a new object", new Run().bit(0, 0), -1);
    }
}
