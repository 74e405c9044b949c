import java.util.NoSuchElementException;

/** What the tests share: telling a text, holding answers against what is due. */
final class Check {
    private static int asked;
    private static int wrong;

    private Check() {
    }

    static void same(String what, long got, long due) {
        asked++;
        if (got != due) {
            wrong++;
            System.out.println(what + " answered " + got + ", due is " + due);
        }
    }

    /** Puts a text on the tape, filled up with blanks, and reads just its length. */
    static int tell(BirdCodes x, String text) {
        feed(x, text);
        return x.text(text.length());
    }

    /** Answers what the last feed() did (0 without one). */
    static int feed(BirdCodes x, String text) {
        int last = 0;
        for (int at = 0; at < text.length(); at += 20) {
            int[] fours = new int[5];
            for (int k = 0; k < 20; k++) {
                int sign = at + k < text.length() ? text.charAt(at + k) : ' ';
                fours[k / 4] = fours[k / 4] << 8 | sign;
            }
            last = x.feed(fours[0], fours[1], fours[2], fours[3], fours[4]);
        }
        return last;
    }

    /** A new object that has read a text without a fault. */
    static BirdCodes of(String text) {
        BirdCodes x = new BirdCodes();
        if (tell(x, text) < 0) {
            same("fault of \"" + text + "\"", x.fault(0), 0);
        }
        return x;
    }

    static void faultOf(String text, int kind, int place) {
        BirdCodes x = new BirdCodes();
        same("text of \"" + text + "\"", tell(x, text), BirdCodes.NONE);
        same("fault(0) of \"" + text + "\"", x.fault(0), kind);
        same("fault(1) of \"" + text + "\"", x.fault(1), place);
    }

    static int packed(String name) {
        int all = 0;
        for (int k = 0; k < 6; k++) {
            all = all << 5 | (k < name.length() ? name.charAt(k) - 'a' + 1 : 0);
        }
        return all;
    }

    /** 1: bird() throws IndexOutOfBoundsException, 2: NoSuchElementException, 3: another one, 0: nothing. */
    static int thrown(BirdCodes x, int bird, int what) {
        try {
            x.bird(bird, what);
            return 0;
        } catch (NoSuchElementException e) {
            return 2;
        } catch (RuntimeException e) {
            return e.getClass() == IndexOutOfBoundsException.class ? 1 : 3;
        }
    }

    static void end(String test) {
        System.out.println(test + ": " + asked + " answers, " + wrong + " wrong");
        if (wrong != 0 || asked == 0) {
            System.exit(1);
        }
    }
}
