/** Section 2, that promises 12 and 13 ask for: SAMPLES, START, ANGLE, SUBFRAMES, noise. */
public final class Section2SignalsTest {
    private static final int[] TABLE = {10, 9, 7, 4, 0, -4, -7, -9, -10, -9, -7, -4, 0, 4, 7, 9};
    /** All chips are 1 by these masks. */
    private static final String ONES = "first 1;second 1;bird a 0;";

    public static void main(String[] args) {
        theTable();
        anglesGoDownwards();
        anglesGoAround();
        chipsOfTwoSamples();
        theStartDrifts();
        theStartBehindAPeriod();
        bitsBelow0();
        bitsAsTold();
        bitsByTheDriftedStart();
        subframes();
        parity();
        againAndAgain();
        sendsNone();
        fades();
        notHeard();
        noise();
        theLeastAndMostNoise();
        sumsOfAll();
        Check.end("Section2SignalsTest");
    }

    private static void same(Run x, int n, int re, int im) {
        Check.same("RE of " + n, x.sample(n, 0), re);
        Check.same("IM of " + n, x.sample(n, 1), im);
    }

    private static void theTable() {
        for (int turn = 0; turn < 16; turn++) {
            Run x = Run.of(ONES + "heard a 0 7 " + turn + " 3;");
            // SIN is the TABLE's at 12 more, modulo 16.
            same(x, 0, 3 * TABLE[turn], 3 * TABLE[(turn + 12) % 16]);
            same(x, 12399, 3 * TABLE[turn], 3 * TABLE[(turn + 12) % 16]);
        }
        for (int strength = 1; strength <= 9; strength++) {
            same(Run.of(ONES + "heard a 0 7 1 " + strength + ";"), 77, 9 * strength, 4 * strength);
        }
    }

    /** "(SHIFT less 7) times n, by 8": a quotient goes downwards, below 0 too. */
    private static void anglesGoDownwards() {
        Run up = Run.of(ONES + "heard a 0 8 0 1;");
        same(up, 0, 10, 0);
        same(up, 7, 10, 0);
        same(up, 8, 9, 4);
        same(up, 15, 9, 4);
        same(up, 16, 7, 7);
        Run down = Run.of(ONES + "heard a 0 6 0 1;");
        same(down, 0, 10, 0);
        same(down, 1, 9, -4);
        same(down, 8, 9, -4);
        same(down, 9, 7, -7);
        same(down, 16, 7, -7);
        Run two = Run.of(ONES + "heard a 0 5 0 1;");
        same(two, 1, 9, -4);
        same(two, 4, 9, -4);
        same(two, 5, 7, -7);
        Run still = Run.of(ONES + "heard a 0 7 0 1;");
        same(still, 12399, 10, 0);
    }

    private static void anglesGoAround() {
        Run up = Run.of(ONES + "heard a 0 8 0 1;");
        same(up, 32, 0, 10);
        same(up, 96, 0, -10);
        same(up, 127, 9, -4);
        same(up, 128, 10, 0);
        Run turned = Run.of(ONES + "heard a 0 8 15 1;");
        same(turned, 7, 9, -4);
        same(turned, 8, 10, 0);
        // 7 times 12399 by 8 is 10849 (and 1 by 8): with 15 it is 0 modulo 16.
        same(Run.of(ONES + "heard a 0 14 15 9;"), 12399, 90, 0);
        // -7 times 12399 by 8 goes down to -10850: 14 modulo 16.
        same(Run.of(ONES + "heard a 0 0 0 9;"), 12399, 63, -63);
    }

    private static int bySign(String code, int place) {
        return code.charAt(Math.floorMod(place, 62) / 2) == '1' ? 10 : -10;
    }

    /** "its CHIP is the one whose number is the PLACE modulo 62, by 2": remainders are 0 at least. */
    private static void chipsOfTwoSamples() {
        Run first = Run.of("second 1;bird a 0;heard a 0 7 0 1;");
        // The code by mask 5 begins with five of 1 and three of -1.
        for (int n = 0; n < 10; n++) {
            same(first, n, 10, 0);
        }
        for (int n = 10; n < 16; n++) {
            same(first, n, -10, 0);
        }
        same(first, 16, 10, 0);
        same(first, 61, -10, 0);
        same(first, 62, 10, 0);
        for (int start = 0; start <= 61; start++) {
            Run x = Run.of("second 1;bird a 0;heard a " + start + " 7 0 1;");
            for (int n = 0; n < 130; n += 7) {
                same(x, n, bySign(Codes.BY_5, n - start), 0);
            }
            Check.same("ahead of it", x.sample(start + 61, 0), -10);
            Check.same("at it", x.sample(start + 62, 0), 10);
        }
    }

    /** "one more for each drift PERIODS that are through". */
    private static void theStartDrifts() {
        for (int drift = 1; drift <= 20; drift++) {
            Run x = Run.of("second 1;bird a 0;heard a 0 7 0 1;drift a " + drift + ";");
            for (int times = 1; times * drift < 200 && times < 40; times++) {
                int last = times * drift - 1;
                // PLACE 10 is the first of -1: it comes one sample later from then on.
                Check.same("drift " + drift + " in period " + last, x.sample(62 * last + 10 + times - 1, 0), -10);
                Check.same("drift " + drift + " in period " + (last + 1), x.sample(62 * last + 62 + 10 + times - 1, 0),
                    10);
                Check.same("drift " + drift + " in period " + (last + 1), x.sample(62 * last + 62 + 10 + times, 0), -10);
            }
        }
        Run none = Run.of("second 1;bird a 0;heard a 0 7 0 1;");
        Check.same("without drift", none.sample(62 * 199 + 10, 0), -10);
        Check.same("without drift", none.sample(62 * 199 + 9, 0), 10);
    }

    /** A START of more than 61: its code goes around. */
    private static void theStartBehindAPeriod() {
        Run x = Run.of("second 1;bird a 0;heard a 60 7 0 1;drift a 1;");
        for (int n = 0; n < 12400; n += 61) {
            same(x, n, bySign(Codes.BY_5, n - 60 - n / 62), 0);
        }
        // In period 2 it is 62: the code begins where the period does.
        same(x, 124, 10, 0);
        same(x, 123, bySign(Codes.BY_5, 123 - 61), 0);
        same(x, 185, -10, 0);
    }

    // ---- bits ----

    /** "BITS below 0 are 0": ahead of the START nothing is turned over. */
    private static void bitsBelow0() {
        Run x = Run.of(ONES + "heard a 61 7 0 1;send a 1 5;");
        same(x, 0, 10, 0);
        same(x, 60, 10, 0);
        same(x, 61, -10, 0);
        // Drifted to 260 in the last period, 199 times 62 less 260 is 195 periods and 48.
        Run drifting = Run.of(ONES + "heard a 61 7 0 1;drift a 1;send a 1 5;");
        same(drifting, 61, -10, 0);
        // In period 1 the START is 62, a sample of it is 0 behind it at least.
        same(drifting, 62, -10, 0);
    }

    /** Sent: 1011 01 000101 0011, each BIT of 62 samples from the START on. */
    private static void bitsAsTold() {
        Run x = Run.of(ONES + "heard a 10 7 0 1;send a 1 5;");
        String sent = "1011010001010011";
        for (int number = 0; number < 199; number++) {
            int due = sent.charAt(number % 16) == '1' ? -10 : 10;
            same(x, 62 * number + 10, due, 0);
            same(x, 62 * number + 71, due, 0);
        }
    }

    private static void bitsByTheDriftedStart() {
        Run x = Run.of(ONES + "heard a 10 7 0 1;drift a 1;send a 1 5;");
        same(x, 10, -10, 0);
        same(x, 61, -10, 0);
        // In period 1 the START is 11: BIT 0 goes on up to sample 72.
        same(x, 72, -10, 0);
        same(x, 73, 10, 0);
        same(x, 124 + 11, 10, 0);
        same(x, 124 + 12, -10, 0);
        Run late = Run.of(ONES + "heard a 61 7 0 1;drift a 1;send a 1 5;");
        // 12399 less 260 is 195 times 62 and 49: BIT 195 is the fourth one of its SUBFRAME.
        same(late, 12399, -10, 0);
        same(late, 62 * 195 + 260, -10, 0);
        same(late, 62 * 199, bitOf("1011010001010011", 62 * 199 - 260), 0);
    }

    private static int bitOf(String sent, int place) {
        return sent.charAt(Math.floorDiv(place, 62) % 16) == '1' ? -10 : 10;
    }

    /** "1 0 1 1, KIND (2, the highest first), VALUE (6), then four of parity". */
    private static void subframes() {
        int[][] sends = {{0, 0}, {3, 63}, {2, 32}, {1, 1}, {1, 5}, {2, 0}, {0, 32}};
        String[] due = {"1011000000000000", "1011111111110001", "1011101000000100", "1011010000010101", "1011010001010011",
            "1011100000001000", "1011001000001100"};
        for (int k = 0; k < due.length; k++) {
            Run x = Run.of("bird a 0;send a " + sends[k][0] + " " + sends[k][1] + ";");
            for (int number = 0; number < 16; number++) {
                Check.same("bit " + number + " of " + due[k], x.bit(0, number), due[k].charAt(number) - '0');
            }
        }
    }

    /** "the j-th is 1, if an odd number of the eight whose number among these (from 1 on) has the bit j". */
    private static void parity() {
        for (int number = 1; number <= 8; number++) {
            int eight = 1 << (8 - number);
            Run x = Run.of("bird a 0;send a " + eight / 64 + " " + eight % 64 + ";");
            for (int j = 0; j < 4; j++) {
                Check.same("parity " + j + " of " + number, x.bit(0, 12 + j), number >> j & 1);
            }
        }
        for (int eight = 0; eight < 256; eight++) {
            Run x = Run.of("bird a 0;send a " + eight / 64 + " " + eight % 64 + ";");
            int[] odd = new int[4];
            for (int number = 1; number <= 8; number++) {
                for (int j = 0; j < 4; j++) {
                    odd[j] ^= x.bit(0, 3 + number) & number >> j;
                }
            }
            for (int j = 0; j < 4; j++) {
                Check.same("parity " + j + " of value " + eight, x.bit(0, 12 + j), odd[j] & 1);
            }
        }
    }

    /** "one behind another, again and again". */
    private static void againAndAgain() {
        Run x = Run.of("bird a 0;bird b 0;send a 2 32;send b 3 63;send a 0 0;send a 1 1;");
        String a = "1011101000000100" + "1011000000000000" + "1011010000010101";
        String b = "1011111111110001";
        for (int number = 0; number < 200; number++) {
            Check.same("bit a " + number, x.bit(0, number), a.charAt(number % 48) - '0');
            Check.same("bit b " + number, x.bit(1, number), b.charAt(number % 16) - '0');
        }
        // Ten of them: the last one ends at 160.
        StringBuilder ten = new StringBuilder("bird a 0;");
        for (int k = 0; k < 10; k++) {
            ten.append("send a 0 ").append(k).append(';');
        }
        Run all = Run.of(ten.toString());
        Check.same("the lowest of 9", all.bit(0, 155), 1);
        Check.same("the lowest of 0", all.bit(0, 171), 0);
        Check.same("the lowest of 1", all.bit(0, 187), 1);
    }

    private static void sendsNone() {
        Run x = Run.of("bird a 0;bird b 0;send b 3 63;");
        for (int number = 0; number < 200; number++) {
            Check.same("bit " + number, x.bit(0, number), 0);
        }
        Run heard = Run.of(ONES + "bird b 0;heard a 5 7 0 1;send b 3 63;");
        same(heard, 5, 10, 0);
        same(heard, 12399, 10, 0);
    }

    // ---- who is heard ----

    /** "those that fade at that PERIOD or ahead" aren't heard. */
    private static void fades() {
        for (int fade : new int[] {1, 2, 3, 100, 198, 199}) {
            Run x = Run.of(ONES + "heard a 0 7 0 1;fade a " + fade + ";");
            same(x, 0, 10, 0);
            same(x, 62 * fade - 1, 10, 0);
            same(x, 62 * fade, 0, 0);
            same(x, 12399, 0, 0);
        }
        same(Run.of(ONES + "heard a 0 7 0 1;"), 12399, 10, 0);
        // A START of 61 doesn't go over into the period in which it fades.
        same(Run.of(ONES + "heard a 61 7 0 1;fade a 2;"), 124, 0, 0);
    }

    private static void notHeard() {
        Run x = Run.of(ONES + "fade a 3;drift a 1;send a 1 1;place a 1 1 1;");
        same(x, 0, 0, 0);
        same(x, 12399, 0, 0);
    }

    // ---- noise ----

    /** Of 1 the numbers, by 65536, are 16838 and 5758, as of the rand() of old. */
    private static void noise() {
        Run x = Run.of("noise 99;");
        same(x, 1, 16838 % 199 - 99, 5758 % 199 - 99);
        same(Run.of("noise 1;"), 1, 16838 % 3 - 1, 5758 % 3 - 1);
        same(Run.of("noise 99;seed 1;"), 0, 16838 % 199 - 99, 5758 % 199 - 99);
        same(Run.of("seed 5;"), 7, 0, 0);
        same(Run.of("noise 0;seed 5;"), 7, 0, 0);
        for (int n : new int[] {0, 61, 62, 6200, 12398, 12399}) {
            same(Run.of("noise 57;seed 99999;"), n, Check.noise(99999 + n, 57, 0), Check.noise(99999 + n, 57, 1));
            same(Run.of("noise 1;seed 31;"), n, Check.noise(31 + n, 1, 0), Check.noise(31 + n, 1, 1));
        }
    }

    private static void theLeastAndMostNoise() {
        Run x = Run.of("noise 9;");
        int least = 0;
        int most = 0;
        for (int n = 0; n < 400; n++) {
            least = Math.min(least, x.sample(n, 0));
            most = Math.max(most, x.sample(n, 0));
        }
        Check.same("least noise", least, -9);
        Check.same("most noise", most, 9);
    }

    private static void sumsOfAll() {
        Run both = Run.of("bird a 3;bird b 9;bird c 1;heard a 4 9 3 5;heard b 50 2 0 9;noise 30;seed 4;send b 1 9;"
            + "fade a 2;");
        Run a = Run.of("bird a 3;heard a 4 9 3 5;fade a 2;");
        Run b = Run.of("bird b 9;heard b 50 2 0 9;send b 1 9;");
        Run none = Run.of("noise 30;seed 4;");
        for (int n = 0; n < 200; n++) {
            same(both, n, a.sample(n, 0) + b.sample(n, 0) + none.sample(n, 0),
                a.sample(n, 1) + b.sample(n, 1) + none.sample(n, 1));
        }
        Run five = Run.of("first 1;second 1;bird a 0;bird b 0;bird c 0;bird d 0;bird e 0;heard a 0 7 0 9;heard b 0 7 0 9;"
            + "heard c 0 7 0 9;heard d 0 7 0 9;heard e 0 7 0 9;");
        same(five, 12399, 450, 0);
    }
}
