import java.util.NoSuchElementException;
import java.util.Random;

/** Whatever a call is given, it ends and throws nothing but what the document says. */
public final class WrongInputTest {
    private static final int[] ODD = {Integer.MIN_VALUE, Integer.MIN_VALUE + 1, -1000000, -32, -3, -2, -1, 0, 1, 2, 3,
        4, 5, 6, 7, 8, 9, 10, 11, 15, 16, 30, 31, 32, 40, 61, 62, 63, 64, 65, 198, 199, 200, 201, 400, 401, 929, 930,
        9999, 12399, 12400, 1 << 20, 1 << 30, Integer.MAX_VALUE - 199, Integer.MAX_VALUE - 1, Integer.MAX_VALUE};
    private static final String[] PIECES = {"bird", "heard", "drift", "fade", "send", "place", "home", "first", "second",
        "noise", "seed", "ratio", "a", "b", "c", "abcdef", "abcdefg", ";", ";", ";", "0", "1", "5", "9", "15", "30",
        "99", "100000", "2147483648", "18446744073709551617", " ", "\n", "\t", "\0", "\u00ff", "-", "A"};

    private final Random random;

    private WrongInputTest(int number) {
        random = new Random(number);
    }

    public static void main(String[] args) {
        int thrown = 0;
        for (int k = 0; k < 400; k++) {
            WrongInputTest test = new WrongInputTest(k);
            BirdCodes x = k % 4 == 0 ? new BirdCodes() : told(test.aText());
            for (int c = 0; c < 250; c++) {
                thrown += test.call(x, test.random.nextInt(42)) ? 0 : 1;
            }
        }
        Check.same("exceptions that the document doesn't name", thrown, 0);
        Check.end("WrongInputTest");
    }

    private static BirdCodes told(String text) {
        BirdCodes x = new BirdCodes();
        for (int at = 0; at < text.length(); at += 20) {
            int[] fours = new int[5];
            for (int k = 0; k < 20; k++) {
                fours[k / 4] = fours[k / 4] << 8 | (at + k < text.length() ? text.charAt(at + k) : ' ');
            }
            x.feed(fours[0], fours[1], fours[2], fours[3], fours[4]);
        }
        Check.yes("a text", x.text(text.length()) > 0);
        return x;
    }

    private String aText() {
        return "bird a " + random.nextInt(31) + ";bird b 3;heard a " + random.nextInt(62) + " " + random.nextInt(15)
            + " 3 9;drift a 1;send a 1 5;place a 0 0 0;heard b 1 1 1 1;place b 15 15 15;bird c 4;bird d 1;"
            + "place c 1 2 3;place d 3 2 1;home 15 0 15 20;noise " + random.nextInt(100) + ";seed 99999;ratio 10;";
    }

    private int odd() {
        return random.nextInt(3) == 0 ? ODD[random.nextInt(ODD.length)] : random.nextInt(6) - 1;
    }

    /** A piece of text that is nearly right, or not at all. */
    private int aFour() {
        int four = 0;
        String piece = PIECES[random.nextInt(PIECES.length)] + PIECES[random.nextInt(PIECES.length)] + "    ";
        for (int k = 0; k < 4; k++) {
            four = four << 8 | piece.charAt(k);
        }
        return four;
    }

    private boolean call(BirdCodes x, int which) {
        try {
            if (which < 21) {
                first(x, which);
            } else {
                second(x, which);
            }
            return true;
        } catch (RuntimeException e) {
            boolean named = which == 3
                && (e.getClass() == IndexOutOfBoundsException.class || e.getClass() == NoSuchElementException.class);
            if (!named) {
                e.printStackTrace(System.out);
            }
            return named;
        }
    }

    private void first(BirdCodes x, int which) {
        switch (which) {
            case 0: x.feed(aFour(), aFour(), aFour(), aFour(), aFour()); break;
            case 1: x.text(random.nextInt(4) == 0 ? odd() : random.nextInt(30)); break;
            case 2: x.fault(odd()); break;
            case 3: x.bird(odd(), odd()); break;
            case 4: x.chip(odd(), odd()); break;
            case 5: x.period(odd()); break;
            case 6: x.cross(odd(), odd(), odd()); break;
            case 7: x.worst(odd(), odd()); break;
            case 8: x.quiet(); break;
            case 9: x.sample(odd(), odd()); break;
            case 10: x.bit(odd(), odd()); break;
            case 11: x.sum(odd(), odd(), odd(), odd(), odd()); break;
            case 12: x.hunt(odd(), odd(), odd(), odd()); break;
            case 13: x.listen(odd(), odd()); break;
            case 14: x.clear(odd(), odd(), odd()); break;
            case 15: x.limit(odd(), odd()); break;
            case 16: x.chance(odd(), odd(), odd(), odd()); break;
            case 17: x.clearest(odd(), odd(), odd()); break;
            case 18: x.tune(odd(), odd(), odd()); break;
            case 19: x.named(odd()); break;
            default: x.lock(odd(), odd()); break;
        }
    }

    private void second(BirdCodes x, int which) {
        switch (which) {
            case 21: x.drop(); break;
            case 22: x.follow(odd()); break;
            case 23: x.channel(odd(), odd()); break;
            case 24: x.logged(odd(), odd()); break;
            case 25: x.frame(odd(), odd(), odd()); break;
            case 26: x.bad(odd()); break;
            case 27: x.errors(odd()); break;
            case 28: x.latest(odd(), odd()); break;
            case 29: x.off(odd()); break;
            case 30: x.range(odd(), odd()); break;
            case 31: x.measure(odd()); break;
            case 32: x.fix(odd()); break;
            case 33: x.fixWithout(odd(), odd()); break;
            case 34: x.suspect(); break;
            case 35: x.spread(odd()); break;
            case 36: x.distance(odd(), odd()); break;
            case 37: x.tried(odd(), odd()); break;
            case 38: x.undo(); break;
            case 39: x.keep(); break;
            case 40: x.back(); break;
            default: x.count(odd()); break;
        }
    }
}
