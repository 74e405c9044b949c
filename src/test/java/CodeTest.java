/** Promises 7 to 11: chips, registers, codes held against one another, the quietest delay. */
public final class CodeTest {
    /** What goes out by mask 5: each bit is whether those five and three ahead of it differ. */
    private static final String BY_FIVE = "1111100011011101010000100101100";
    /** By mask 29: those five, three, two and one ahead of it, an odd number of them. */
    private static final String BY_29 = odd(29);

    private static String odd(int mask) {
        StringBuilder bits = new StringBuilder("11111");
        for (int k = 5; k < 31; k++) {
            int ones = 0;
            for (int low = 0; low < 5; low++) {
                if ((mask >> low & 1) == 1 && bits.charAt(k - 5 + low) == '1') {
                    ones++;
                }
            }
            bits.append(ones % 2);
        }
        return bits.toString();
    }

    public static void main(String[] args) {
        chips();
        periods();
        crosses();
        worsts();
        quietest();
        Check.end("CodeTest");
    }

    private static void chips() {
        // By mask 1 only ones go out: the code is that of the other register alone.
        BirdCodes first = Check.of("second 1;bird a 0;bird b 13;");
        BirdCodes second = Check.of("first 1;second 5;bird a 0;bird b 13;");
        BirdCodes both = Check.of("bird a 0;bird b 30;bird c 1;");
        int[] delays = {0, 30, 1};
        for (int i = 0; i < 31; i++) {
            int due = BY_FIVE.charAt(i) == '1' ? 1 : -1;
            Check.same("chip of FIRST " + i, first.chip(0, i), due);
            Check.same("chip of FIRST, delayed, " + i, first.chip(1, i), due);
            Check.same("chip of SECOND " + i, second.chip(0, i), due);
            Check.same("chip of SECOND, delayed, " + i, second.chip(1, i),
                BY_FIVE.charAt((i + 13) % 31) == '1' ? 1 : -1);
            for (int b = 0; b < 3; b++) {
                Check.same("chip " + b + " " + i, both.chip(b, i),
                    BY_FIVE.charAt(i) == BY_29.charAt((i + delays[b]) % 31) ? 1 : -1);
            }
        }
        // The masks count wherever their lines stand.
        BirdCodes behind = Check.of("bird a 3;second 1;first 1;");
        for (int i = 0; i < 31; i++) {
            Check.same("chip of ones " + i, behind.chip(0, i), 1);
        }
        for (int i : new int[] {-1, 31, Integer.MIN_VALUE, Integer.MAX_VALUE}) {
            Check.same("chip 0 " + i, both.chip(0, i), 0);
        }
        for (int b : new int[] {-1, 3, Integer.MIN_VALUE, Integer.MAX_VALUE}) {
            Check.same("chip " + b + " 0", both.chip(b, 0), 0);
        }
    }

    private static void periods() {
        BirdCodes x = new BirdCodes();
        int[] due = new int[33];
        for (int mask = 0; mask <= 32; mask++) {
            int[] bits = {1, 1, 1, 1, 1};
            due[mask] = mask == 0 || mask == 32 ? -1 : -2;
            for (int k = 1; k <= 100 && due[mask] == -2; k++) {
                int odd = 0;
                for (int low = 0; low < 5; low++) {
                    odd ^= (mask >> low & 1) & bits[low];
                }
                bits = new int[] {bits[1], bits[2], bits[3], bits[4], odd};
                if (bits[0] + bits[1] + bits[2] + bits[3] + bits[4] == 5) {
                    due[mask] = k;
                }
            }
            Check.same("period " + mask, x.period(mask), due[mask]);
        }
        Check.same("period 5", due[5], 31);
        Check.same("period 3", due[3], 21);
        // An odd number of bits in the mask: all ones stay.
        Check.same("period 31", x.period(31), 1);
        Check.same("period 16", x.period(16), 1);
        Check.same("period 30", x.period(30), -2);
        Check.same("period -1", x.period(-1), -1);
        Check.same("period 33", x.period(33), -1);
        Check.same("period least", x.period(Integer.MIN_VALUE), -1);
        // The masks of the text don't matter.
        Check.same("period 5 with other masks", Check.of("first 3;second 6;").period(5), 31);
    }

    private static void crosses() {
        // By one register alone a code is alike only to itself: 31, else -1.
        BirdCodes x = Check.of("first 1;second 5;bird a 11;bird b 4;bird c 11;");
        for (int by = 0; by < 31; by++) {
            Check.same("cross 0 0 " + by, x.cross(0, 0, by), by == 0 ? 31 : -1);
            Check.same("cross 0 1 " + by, x.cross(0, 1, by), by == 7 ? 31 : -1);
            Check.same("cross 1 0 " + by, x.cross(1, 0, by), by == 24 ? 31 : -1);
            Check.same("cross 0 2 " + by, x.cross(0, 2, by), by == 0 ? 31 : -1);
        }
        BirdCodes gold = Check.of("bird a 0;bird b 3;");
        for (int by = 0; by < 31; by++) {
            int all = 0;
            for (int i = 0; i < 31; i++) {
                all += gold.chip(0, i) * gold.chip(1, (i + by) % 31);
            }
            Check.same("cross of two registers " + by, gold.cross(0, 1, by), all);
        }
        for (int wrong : new int[] {-1, 31, Integer.MIN_VALUE, Integer.MAX_VALUE}) {
            Check.same("cross 0 1 " + wrong, gold.cross(0, 1, wrong), -99);
            Check.same("cross by bird " + wrong, gold.cross(wrong, 0, 0), -99);
            Check.same("cross to bird " + wrong, gold.cross(0, wrong, 0), -99);
        }
        Check.same("cross 2 0", gold.cross(2, 0, 0), -99);
        Check.same("cross 0 2", gold.cross(0, 2, 0), -99);
    }

    private static void worsts() {
        BirdCodes x = Check.of("first 1;second 5;bird a 11;bird b 4;bird c 11;");
        Check.same("one and the same", x.worst(0, 0), 1);
        Check.same("the same, delayed", x.worst(0, 1), 31);
        Check.same("two alike", x.worst(0, 2), 31);
        // The codes of masks 5 and 29 are never further than 9 alike (31 of them, by theory).
        BirdCodes gold = Check.of("bird a 0;bird b 3;bird c 30;");
        Check.same("gold 0 1", gold.worst(0, 1), 9);
        Check.same("gold 1 0", gold.worst(1, 0), 9);
        Check.same("gold 2 2", gold.worst(2, 2), 9);
        Check.same("all ones", Check.of("first 1;second 1;bird a 0;").worst(0, 0), 31);
        for (int wrong : new int[] {-1, 3, Integer.MIN_VALUE, Integer.MAX_VALUE}) {
            Check.same("worst 0 " + wrong, gold.worst(0, wrong), -2);
            Check.same("worst " + wrong + " 0", gold.worst(wrong, 0), -2);
            Check.same("worst " + wrong + " itself", gold.worst(wrong, wrong), -2);
        }
    }

    /** By the answers of worst() for a bird more. */
    private static int quietestOf(String text, int birds) {
        int best = -1;
        int least = 99;
        for (int delay = 0; delay < 31; delay++) {
            BirdCodes x = Check.of(text + "bird zz " + delay + ";");
            int greatest = 0;
            for (int b = 0; b < birds; b++) {
                greatest = Math.max(greatest, x.worst(birds, b));
            }
            if (greatest < least) {
                least = greatest;
                best = delay;
            }
        }
        return best;
    }

    private static void quietest() {
        Check.same("quiet without birds", new BirdCodes().quiet(), 0);
        String[] texts = {"bird a 0;", "bird a 5;bird b 9;", "first 7;second 11;bird a 0;bird b 1;bird c 2;",
            "first 21;second 9;bird a 0;", "first 3;second 13;bird a 4;bird b 4;bird c 20;bird d 30;",
            "first 1;second 5;bird a 3;", "first 18;second 3;bird a 1;bird b 6;"};
        int[] birds = {1, 2, 3, 1, 4, 1, 2};
        boolean other = false;
        for (int k = 0; k < texts.length; k++) {
            int due = quietestOf(texts[k], birds[k]);
            other |= due > 1;
            Check.same("quiet of " + texts[k], Check.of(texts[k]).quiet(), due);
        }
        Check.same("some are neither of the first", other ? 1 : 0, 1);
        Check.same("quiet beside delay 0", Check.of("bird a 0;").quiet(), 1);
    }
}
