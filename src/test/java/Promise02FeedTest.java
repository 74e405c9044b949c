/** Promise 2: feed. */
public final class Promise02FeedTest {
    private static final int BLANKS = 0x20202020;

    public static void main(String[] args) {
        behindTheTape();
        fourOfEachTheHighestFirst();
        howManyItHas();
        noMoreThan700();
        afterAText();
        Check.end("Promise02FeedTest");
    }

    /** Feeds blanks and one sign that is no token, the place-th of the twenty. */
    private static int feedSign(Run x, int place, int sign) {
        int[] fours = {BLANKS, BLANKS, BLANKS, BLANKS, BLANKS};
        int low = 24 - 8 * (place % 4);
        fours[place / 4] = fours[place / 4] & ~(255 << low) | sign << low;
        return x.feed(fours[0], fours[1], fours[2], fours[3], fours[4]);
    }

    /** "Twenty bytes come behind the TAPE, four of each number, the highest first". */
    private static void fourOfEachTheHighestFirst() {
        for (int place = 0; place < 20; place++) {
            for (int sign : new int[] {'#', 0x7f, 0x80, 0xe9, 0xff, 0, 1}) {
                Run x = new Run();
                Check.same("feed", feedSign(x, place, sign), 20);
                Check.same("up to byte " + place, x.text(place), 0);
                Run y = new Run();
                feedSign(y, place, sign);
                Check.same("with byte " + place, y.text(20), -1);
                Check.same("its place", y.fault(1), place);
            }
        }
        // "bird" " abc" " 17;" "\nbir" "d z ", "4;".
        Run x = new Run();
        x.feed(0x62697264, 0x20616263, 0x2031373b, 0x0a626972, 0x64207a20);
        x.feed(0x343bffff, -1, Integer.MIN_VALUE, Integer.MAX_VALUE, 0);
        Check.same("text", x.text(22), 2);
        Check.same("named abc", x.named(Check.packed("abc")), 0);
        Check.same("delay of abc", x.bird(0, 0), 17);
        Check.same("named z", x.named(Check.packed("z")), 1);
        Check.same("delay of z", x.bird(1, 0), 4);
    }

    private static void behindTheTape() {
        for (int k = 0; k < 35; k += 17) {
            Run x = new Run();
            for (int before = 0; before < k; before++) {
                x.feed(BLANKS, BLANKS, BLANKS, BLANKS, BLANKS);
            }
            Check.same("feed", feedSign(x, 13, '#'), 20 * k + 20);
            Check.same("text", x.text(20 * k + 20), -1);
            Check.same("place behind " + k, x.fault(1), 20 * k + 13);
        }
    }

    private static void howManyItHas() {
        Run x = new Run();
        for (int k = 1; k <= 35; k++) {
            Check.same("feed " + k, x.feed(k, k, k, k, k), 20 * k);
            Check.same("count behind feed " + k, x.count(11), 20 * k);
        }
    }

    /** "NONE, and none come, if it would have more than 700". */
    private static void noMoreThan700() {
        Run x = new Run();
        for (int k = 1; k < 35; k++) {
            x.feed(BLANKS, BLANKS, BLANKS, BLANKS, BLANKS);
        }
        Check.same("just 700", feedSign(x, 19, '#'), 700);
        Check.leaves(x, "more than 700", -1, o -> o.feed(0x62697264, 0x20612033, 0x3b202020, BLANKS, BLANKS));
        Check.leaves(x, "more than 700 again", -1, o -> o.feed(0, 0, 0, 0, 0));
        Check.same("count", x.count(11), 700);
        Run cut = x.copy();
        Check.same("all but the last byte", cut.text(699), 0);
        Check.same("all of it", x.text(700), -1);
        Check.same("the last byte came", x.fault(1), 699);
    }

    private static void afterAText() {
        Run x = new Run();
        for (int k = 1; k <= 35; k++) {
            x.feed(BLANKS, BLANKS, BLANKS, BLANKS, BLANKS);
        }
        x.text(0);
        Check.same("from the start again", feedSign(x, 7, '#'), 20);
        Check.same("no old bytes", x.text(20), -1);
        Check.same("place", x.fault(1), 7);
        Check.same("behind a fault", x.feed(BLANKS, BLANKS, BLANKS, BLANKS, BLANKS), 20);
        Check.same("text of too many", x.text(21), -2);
        Check.same("behind -2 it stays", x.feed(BLANKS, BLANKS, BLANKS, BLANKS, BLANKS), 40);
    }
}
