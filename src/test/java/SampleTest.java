/** Promises 12 to 14: samples, bits, sums. */
public final class SampleTest {
    private static final int[] TABLE = {10, 9, 7, 4, 0, -4, -7, -9, -10, -9, -7, -4, 0, 4, 7, 9};
    /** All chips are 1 by these masks. */
    private static final String ONES = "first 1;second 1;bird a 0;";

    public static void main(String[] args) {
        angles();
        starts();
        drifts();
        fades();
        bits();
        subframes();
        noises();
        together();
        sums();
        wrongOnes();
        Check.end("SampleTest");
    }

    private static void same(BirdCodes x, int n, int re, int im) {
        Check.same("RE of " + n, x.sample(n, 0), re);
        Check.same("IM of " + n, x.sample(n, 1), im);
    }

    private static void angles() {
        for (int turn = 0; turn < 16; turn++) {
            BirdCodes x = Check.of(ONES + "heard a 0 7 " + turn + " 3;");
            same(x, 0, 3 * TABLE[turn], 3 * TABLE[(turn + 12) % 16]);
            same(x, 12399, 3 * TABLE[turn], 3 * TABLE[(turn + 12) % 16]);
        }
        // One shift above 7: an angle more each eight samples; one below: less, from sample 1 on.
        BirdCodes up = Check.of(ONES + "heard a 0 8 0 1;");
        same(up, 7, 10, 0);
        same(up, 8, 9, 4);
        same(up, 32, 0, 10);
        same(up, 96, 0, -10);
        same(up, 128, 10, 0);
        BirdCodes down = Check.of(ONES + "heard a 0 6 0 1;");
        same(down, 0, 10, 0);
        same(down, 1, 9, -4);
        same(down, 8, 9, -4);
        same(down, 9, 7, -7);
        BirdCodes most = Check.of(ONES + "heard a 0 14 15 9;");
        // 7 times 12399 by 8 is 10849 (and 1/8): with 15 it is 0 modulo 16.
        same(most, 12399, 90, 0);
        BirdCodes least = Check.of(ONES + "heard a 0 0 0 9;");
        // -7 times 12399 by 8 goes down to -10850: 14 modulo 16.
        same(least, 12399, 63, -63);
    }

    private static void starts() {
        // By mask 5 alone: two samples a chip.
        String five = "1111100011011101010000100101100";
        for (int start = 0; start < 62; start += 3) {
            BirdCodes x = Check.of("second 1;bird a 0;heard a " + start + " 7 0 1;");
            for (int n = 0; n < 130; n += 7) {
                int chip = Math.floorMod(n - start, 62) / 2;
                same(x, n, five.charAt(chip) == '1' ? 10 : -10, 0);
            }
        }
    }

    private static void drifts() {
        // One period of drift: the start is one more each period.
        BirdCodes x = Check.of("second 1;bird a 0;heard a 60 7 0 1;drift a 1;");
        String five = "1111100011011101010000100101100";
        for (int n = 0; n < 12400; n += 61) {
            int chip = Math.floorMod(n - 60 - n / 62, 62) / 2;
            same(x, n, five.charAt(chip) == '1' ? 10 : -10, 0);
        }
        BirdCodes slow = Check.of("second 1;bird a 0;heard a 0 7 0 1;drift a 20;");
        // The chip of place 10 is the first -1.
        for (int period = 0; period < 60; period++) {
            int start = period < 20 ? 0 : period < 40 ? 1 : 2;
            Check.same("start in " + period, slow.sample(62 * period + 9 + start, 0), 10);
            Check.same("behind it in " + period, slow.sample(62 * period + 10 + start, 0), -10);
        }
    }

    private static void fades() {
        BirdCodes x = Check.of(ONES + "heard a 0 7 0 1;fade a 3;");
        same(x, 3 * 62 - 1, 10, 0);
        same(x, 3 * 62, 0, 0);
        same(x, 12399, 0, 0);
        BirdCodes last = Check.of(ONES + "heard a 0 7 0 1;fade a 199;");
        same(last, 199 * 62 - 1, 10, 0);
        same(last, 199 * 62, 0, 0);
        BirdCodes unheard = Check.of(ONES + "fade a 3;drift a 1;send a 1 1;");
        same(unheard, 0, 0, 0);
    }

    private static void bits() {
        // Sent: 1011 01 000101 0011. A bit goes from the start on, 62 samples long.
        String sent = "1011010001010011";
        BirdCodes x = Check.of(ONES + "heard a 10 7 0 1;send a 1 5;");
        for (int number = 0; number < 200; number++) {
            Check.same("bit " + number, x.bit(0, number), sent.charAt(number % 16) - '0');
        }
        // Ahead of the start bits are 0.
        same(x, 0, 10, 0);
        same(x, 9, 10, 0);
        same(x, 10, -10, 0);
        same(x, 71, -10, 0);
        same(x, 72, 10, 0);
        same(x, 10 + 2 * 62, -10, 0);
        same(x, 9 + 4 * 62, -10, 0);
        same(x, 10 + 4 * 62, 10, 0);
        same(x, 10 + 16 * 62, -10, 0);
        // As the start is one more, place 0 is a sample later: bit 1 is told through sample 134.
        BirdCodes drifting = Check.of(ONES + "heard a 10 7 0 1;drift a 1;send a 1 5;");
        same(drifting, 10, -10, 0);
        same(drifting, 61, -10, 0);
        same(drifting, 72, -10, 0);
        same(drifting, 73, 10, 0);
        same(drifting, 124 + 11, 10, 0);
        same(drifting, 124 + 12, -10, 0);
        // Far behind its code: the start is 61 and 199 in the last period.
        BirdCodes late = Check.of(ONES + "heard a 61 7 0 1;drift a 1;send a 1 5;");
        // 12399 less 260 is 195 times 62 and 49: bit 195 is the third one of its subframe.
        same(late, 12399, late.bit(0, 195) == 1 ? -10 : 10, 0);
        Check.same("bit 195", late.bit(0, 195), 1);
        Check.same("bit 196", late.bit(0, 196), 0);
    }

    private static void subframes() {
        BirdCodes x = Check.of("bird a 0;bird b 0;bird c 0;send a 2 32;send b 3 63;send a 0 0;send a 1 1;");
        // 10 100000: numbers 1 and 3; 00 000000: none; 01 000001: 2 and 8. 11 111111: all, of which
        // four have each of the first three bits of their number, but 8 alone has the last one.
        String a = "1011101000000100" + "1011000000000000" + "1011010000010101";
        String b = "1011111111110001";
        for (int number = 0; number < 200; number++) {
            Check.same("bit a " + number, x.bit(0, number), a.charAt(number % 48) - '0');
            Check.same("bit b " + number, x.bit(1, number), b.charAt(number % 16) - '0');
            Check.same("bit c " + number, x.bit(2, number), 0);
        }
        // Each of the eight bits alone: its number from 1 on, the lowest bit first.
        for (int number = 1; number <= 8; number++) {
            int eight = 1 << (8 - number);
            BirdCodes one = Check.of("bird a 0;send a " + eight / 64 + " " + eight % 64 + ";");
            for (int j = 0; j < 4; j++) {
                Check.same("parity " + j + " of " + number, one.bit(0, 12 + j), number >> j & 1);
            }
        }
    }

    private static void noises() {
        // From 1 on the numbers (by 65536) are 16838, 5758, as of the rand() of old.
        BirdCodes x = Check.of("noise 99;");
        same(x, 1, 16838 % 199 - 99, 5758 % 199 - 99);
        same(Check.of("noise 1;"), 1, 16838 % 3 - 1, 5758 % 3 - 1);
        same(Check.of("noise 99;seed 1;"), 0, 16838 % 199 - 99, 5758 % 199 - 99);
        same(Check.of("seed 5;"), 7, 0, 0);
        long number = 99999 + 12399;
        number = (number * 1103515245L + 12345) % (1L << 31);
        int re = (int) (number / 65536 % 115) - 57;
        number = (number * 1103515245L + 12345) % (1L << 31);
        int im = (int) (number / 65536 % 115) - 57;
        same(Check.of("noise 57;seed 99999;"), 12399, re, im);
        int least = 0;
        int most = 0;
        for (int n = 0; n < 12400; n++) {
            least = Math.min(least, x.sample(n, 0));
            most = Math.max(most, x.sample(n, 0));
        }
        Check.same("least noise", least, -99);
        Check.same("most noise", most, 99);
    }

    private static void together() {
        BirdCodes both = Check.of("bird a 3;bird b 9;bird c 1;heard a 4 9 3 5;heard b 50 2 0 9;noise 30;seed 4;"
            + "send b 1 9;fade a 2;");
        BirdCodes a = Check.of("bird a 3;heard a 4 9 3 5;fade a 2;");
        BirdCodes b = Check.of("bird b 9;heard b 50 2 0 9;send b 1 9;");
        BirdCodes none = Check.of("noise 30;seed 4;");
        for (int n = 0; n < 400; n++) {
            for (int what = 0; what < 2; what++) {
                Check.same("sample " + n + " " + what, both.sample(n, what),
                    a.sample(n, what) + b.sample(n, what) + none.sample(n, what));
            }
        }
    }

    private static int angle(int n, int shift, int turn) {
        return Math.floorMod(Math.floorDiv((shift - 7) * n, 8) + turn, 16);
    }

    private static void sumOf(BirdCodes x, int bird, int period, int cell, int turn) {
        int i = 0;
        int q = 0;
        for (int n = 62 * period; n < 62 * period + 62; n++) {
            int chip = x.chip(bird, Math.floorMod(n - cell % 62, 62) / 2);
            int angle = angle(n, cell / 62, turn);
            int re = x.sample(n, 0);
            int im = x.sample(n, 1);
            i += chip * (re * TABLE[angle] + im * TABLE[(angle + 12) % 16]);
            q += chip * (im * TABLE[angle] - re * TABLE[(angle + 12) % 16]);
        }
        i = Math.floorDiv(i, 64);
        q = Math.floorDiv(q, 64);
        String call = "sum " + bird + " " + period + " " + cell + " " + turn + " ";
        Check.same(call + 0, x.sum(bird, period, cell, turn, 0), i);
        Check.same(call + 1, x.sum(bird, period, cell, turn, 1), q);
        Check.same(call + 2, x.sum(bird, period, cell, turn, 2), i * i + q * q);
    }

    private static void sums() {
        BirdCodes x = Check.of("bird a 3;bird b 9;heard a 4 9 3 5;heard b 50 2 0 9;noise 30;seed 4;send b 1 9;");
        for (int cell = 0; cell < 930; cell += 13) {
            sumOf(x, 0, cell % 200, cell, cell % 16);
            sumOf(x, 1, 199 - cell % 200, 929 - cell, 15 - cell % 16);
        }
        // Alone it is found whole: 62 times 10 times 10, by 64, and less where it is turned over.
        BirdCodes one = Check.of(ONES + "heard a 0 7 0 1;");
        Check.same("I", one.sum(0, 0, 434, 0, 0), 96);
        Check.same("I, turned over", one.sum(0, 0, 434, 8, 0), -97);
        Check.same("Q, a quarter", one.sum(0, 0, 434, 4, 1), -97);
        Check.same("Q, three quarters", one.sum(0, 0, 434, 12, 1), 96);
    }

    private static void wrongOnes() {
        BirdCodes x = Check.of(ONES + "heard a 0 7 0 9;noise 99;");
        for (int n : new int[] {-1, 12400, Integer.MIN_VALUE, Integer.MAX_VALUE}) {
            same(x, n, 0, 0);
        }
        for (int what : new int[] {-1, 2, Integer.MIN_VALUE, Integer.MAX_VALUE}) {
            Check.same("sample 5 " + what, x.sample(5, what), 0);
        }
        for (int number : new int[] {-1, 200, Integer.MIN_VALUE, Integer.MAX_VALUE}) {
            Check.same("bit 0 " + number, x.bit(0, number), -1);
            Check.same("sum at period " + number, x.sum(0, number, 434, 0, 2), 0);
            Check.same("sum of bird " + number, x.sum(number, 0, 434, 0, 2), 0);
            Check.same("sum what " + number, x.sum(0, 0, 434, 0, number), 0);
            Check.same("bit of bird " + number, x.bit(number, 0), -1);
        }
        Check.same("bit 199", x.bit(0, 199), 0);
        Check.same("bit of bird 1", x.bit(1, 0), -1);
        Check.same("sum of bird 1", x.sum(1, 0, 434, 0, 2), 0);
        Check.same("sum what 3", x.sum(0, 0, 434, 0, 3), 0);
        for (int cell : new int[] {-1, 930, Integer.MIN_VALUE, Integer.MAX_VALUE}) {
            Check.same("sum of cell " + cell, x.sum(0, 0, cell, 0, 2), 0);
        }
        for (int turn : new int[] {-1, 16, Integer.MIN_VALUE, Integer.MAX_VALUE}) {
            Check.same("sum by turn " + turn, x.sum(0, 0, 434, turn, 2), 0);
        }
        Check.same("a right one isn't 0", x.sum(0, 199, 434, 15, 2) > 0 ? 1 : 0, 1);
    }
}
