/** Section 3, that promises 15 to 20 ask for: PEAK, RIVAL, ACQUIRED, BY CHANCE. */
public final class Section3HuntTest {
    public static void main(String[] args) {
        cellByCell();
        theFirstAndTheLastCell();
        anyCell();
        theFirstOfTheGreatest();
        rivalsAre3Apart();
        rivalsAround();
        rivalsOfAnyShift();
        noLessThanRatio();
        aboveNothing();
        powersTogether();
        Check.end("Section3HuntTest");
    }

    /** A hunt by the answers of sum() alone: PEAK, its POWER, RIVAL. */
    private static long[] bySums(Run x, int bird, int period, int m) {
        long[] powers = new long[930];
        for (int cell = 0; cell < 930; cell++) {
            for (int p = period; p < period + m; p++) {
                powers[cell] += x.sum(bird, p, cell, 0, 2);
            }
        }
        int peak = 0;
        for (int cell = 0; cell < 930; cell++) {
            peak = powers[cell] > powers[peak] ? cell : peak;
        }
        long rival = 0;
        for (int cell = 0; cell < 930; cell++) {
            int apart = Math.abs(cell % 62 - peak % 62);
            if (Math.min(apart, 62 - apart) >= 3) {
                rival = Math.max(rival, powers[cell]);
            }
        }
        return new long[] {peak, powers[peak], rival};
    }

    private static void same(Run x, int bird, int period, int m, int ratio) {
        long[] due = bySums(x, bird, period, m);
        String call = "hunt " + bird + " " + period + " " + m + " ";
        for (int what = 0; what < 3; what++) {
            Check.same(call + what, x.hunt(bird, period, m, what), due[what]);
        }
        Check.same(call + 3, x.hunt(bird, period, m, 3), due[1] > 0 && 10 * due[1] >= ratio * due[2] ? 1 : 0);
    }

    private static void cellByCell() {
        Run x = Run.of("bird a 0;bird b 3;bird c 7;heard a 10 7 0 3;heard b 40 3 5 4;heard c 5 12 9 2;noise 40;seed 7;"
            + "drift a 1;send b 1 2;");
        for (int m = 1; m <= 4; m++) {
            same(x, 0, 17 * m, m, 15);
            same(x, 1, 200 - m, m, 15);
            same(x, 2, 0, m, 15);
        }
        for (int start : new int[] {0, 1, 2, 59, 60, 61}) {
            same(Run.of("bird a 4;heard a " + start + " 5 0 2;noise 9;ratio 30;"), 0, 3, 1, 30);
        }
    }

    /** "CELLS: 62 times SHIFT and start": a bird heard alone by TURN 0 has its PEAK in the cell of both. */
    private static void anyCell() {
        for (int cell = 0; cell < 930; cell++) {
            Run x = Run.of("bird a 4;heard a " + cell % 62 + " " + cell / 62 + " 0 9;");
            Check.same("peak of cell " + cell, x.hunt(0, 0, 1, 0), cell);
        }
    }

    private static void theFirstAndTheLastCell() {
        Check.same("start 0, shift 0", Run.of("bird a 4;heard a 0 0 0 9;").hunt(0, 7, 1, 0), 0);
        Check.same("start 61, shift 0", Run.of("bird a 4;heard a 61 0 0 9;").hunt(0, 7, 1, 0), 61);
        Check.same("start 0, shift 14", Run.of("bird a 4;heard a 0 14 0 9;").hunt(0, 7, 1, 0), 868);
        Check.same("start 61, shift 14", Run.of("bird a 4;heard a 61 14 0 9;").hunt(0, 7, 1, 0), 929);
        for (int shift = 0; shift < 15; shift++) {
            Run one = Run.of("bird a 4;heard a 33 " + shift + " 11 9;");
            Check.same("peak by shift " + shift, one.hunt(0, 7, 1, 0), 62 * shift + 33);
            Check.same("acquired by shift " + shift, one.hunt(0, 7, 1, 3), 1);
        }
    }

    /** "the CELL of the greatest POWER, the first one". */
    private static void theFirstOfTheGreatest() {
        // A code of ones alone is as strong by each start.
        for (int start : new int[] {0, 30, 61}) {
            Run ones = Run.of("first 1;second 1;bird a 0;heard a " + start + " 9 0 1;");
            Check.same("peak of ones", ones.hunt(0, 0, 1, 0), 62 * 9);
            Check.same("a rival as strong", ones.hunt(0, 0, 1, 2), ones.hunt(0, 0, 1, 1));
        }
        // Heard at two starts alike, 31 apart: what they take from one another is alike as well.
        Run two = Run.of("first 1;second 5;bird a 0;bird b 0;heard a 10 7 0 8;heard b 41 7 0 8;");
        Check.same("alike", two.sum(0, 0, 434 + 10, 0, 2), two.sum(0, 0, 434 + 41, 0, 2));
        Check.same("peak of two alike", two.hunt(0, 0, 1, 0), 434 + 10);
        Check.same("rival of two alike", two.hunt(0, 0, 1, 2), two.hunt(0, 0, 1, 1));
    }

    private static Run pair(int start, int other) {
        return Run.of("bird a 4;bird b 4;heard a " + start + " 7 0 9;heard b " + other + " 7 0 6;");
    }

    /** "the greatest POWER of CELLS whose start is 3 or more from the PEAK's". */
    private static void rivalsAre3Apart() {
        for (int way : new int[] {3, -3, 4, -4}) {
            Run x = pair(30, 30 + way);
            Check.same("peak", x.hunt(0, 0, 1, 0), 434 + 30);
            Check.same("rival at " + way, x.hunt(0, 0, 1, 2), x.sum(0, 0, 434 + 30 + way, 0, 2));
        }
        for (int way : new int[] {2, -2}) {
            Run x = pair(30, 30 + way);
            Check.same("peak", x.hunt(0, 0, 1, 0), 434 + 30);
            Check.yes("at " + way + " it is none", x.hunt(0, 0, 1, 2) < x.sum(0, 0, 434 + 30 + way, 0, 2));
            Check.same("rival beside " + way, x.hunt(0, 0, 1, 2), bySums(x, 0, 0, 1)[2]);
        }
    }

    /** "around: 61 and 0 are 1 apart". */
    private static void rivalsAround() {
        int[][] three = {{60, 1}, {61, 2}, {59, 0}, {1, 60}, {2, 61}, {0, 59}};
        for (int[] starts : three) {
            Run x = pair(starts[0], starts[1]);
            Check.same("peak", x.hunt(0, 0, 1, 0), 434 + starts[0]);
            Check.same("rival of " + starts[0] + " at " + starts[1], x.hunt(0, 0, 1, 2),
                x.sum(0, 0, 434 + starts[1], 0, 2));
        }
        int[][] two = {{60, 0}, {61, 1}, {61, 0}, {0, 60}, {1, 61}, {0, 61}};
        for (int[] starts : two) {
            Run x = pair(starts[0], starts[1]);
            long[] due = bySums(x, 0, 0, 1);
            Check.same("peak", x.hunt(0, 0, 1, 0), due[0]);
            Check.yes("at " + starts[1] + " it is none", due[2] < x.sum(0, 0, 434 + starts[1], 0, 2));
            Check.same("rival of " + starts[0] + " beside " + starts[1], x.hunt(0, 0, 1, 2), due[2]);
        }
    }

    /** Of the starts that are near none counts, whatever its SHIFT; of others all do. */
    private static void rivalsOfAnyShift() {
        Run near = Run.of("bird a 4;bird b 4;heard a 30 7 0 9;heard b 31 12 0 8;");
        Check.same("peak", near.hunt(0, 0, 1, 0), 434 + 30);
        Check.same("rival", near.hunt(0, 0, 1, 2), bySums(near, 0, 0, 1)[2]);
        Check.yes("another shift is none", near.hunt(0, 0, 1, 2) < near.sum(0, 0, 62 * 12 + 31, 0, 2));
        for (int shift : new int[] {0, 14}) {
            Run far = Run.of("bird a 4;bird b 4;heard a 30 7 0 9;heard b 40 " + shift + " 0 8;");
            Check.same("rival by shift " + shift, far.hunt(0, 0, 1, 2), far.sum(0, 0, 62 * shift + 40, 0, 2));
        }
    }

    /** "ten times it no less than ratio times RIVAL". */
    private static void noLessThanRatio() {
        int[] seen = new int[2];
        for (int ratio = 10; ratio <= 99; ratio++) {
            Run x = Run.of("bird a 0;bird b 3;heard a 10 7 0 3;heard b 40 3 5 4;noise 20;ratio " + ratio + ";");
            long power = x.hunt(0, 5, 1, 1);
            long rival = x.hunt(0, 5, 1, 2);
            int due = 10 * power >= ratio * rival ? 1 : 0;
            seen[due]++;
            Check.same("acquired by ratio " + ratio, x.hunt(0, 5, 1, 3), due);
        }
        Check.yes("both are seen", seen[0] > 0 && seen[1] > 0);
        // Peak and rival alike: ten times it is no less by 10, and less by 11.
        String ones = "first 1;second 1;bird a 0;heard a 30 9 0 1;ratio ";
        Check.same("by 10", Run.of(ones + "10;").hunt(0, 0, 1, 3), 1);
        Check.same("by 11", Run.of(ones + "11;").hunt(0, 0, 1, 3), 0);
        Check.same("by none told", Run.of("first 1;second 1;bird a 0;heard a 30 9 0 1;").hunt(0, 0, 1, 3), 0);
    }

    /** "POWER of the PEAK is above 0". */
    private static void aboveNothing() {
        Run x = Run.of("bird a 0;ratio 10;");
        for (int m = 1; m <= 4; m++) {
            for (int what = 0; what < 4; what++) {
                Check.same("hunt of nothing " + what, x.hunt(0, 100, m, what), 0);
            }
        }
        Run faded = Run.of("bird a 0;heard a 3 7 0 9;fade a 100;ratio 10;");
        Check.same("ahead of its fading", faded.hunt(0, 99, 1, 3), 1);
        Check.same("behind it", faded.hunt(0, 100, 1, 3), 0);
        leastAboveNothing();
    }

    /** Four birds of which all but sample 0 of period 0 is taken away: it is 6, -4. */
    private static void leastAboveNothing() {
        String four = "first 30;second 30;bird a 5;bird b 5;bird c 5;bird d 5;heard a 1 7 10 1;heard b 1 7 3 1;"
            + "heard c 1 7 10 1;heard d 1 7 3 1;send a 2 0;send b 2 0;ratio ";
        Run x = Run.of(four + "10;");
        Check.same("sample 0", x.sample(0, 0), 6);
        Check.same("IM of it", x.sample(0, 1), -4);
        for (int n = 1; n < 62; n++) {
            Check.same("sample " + n, Math.abs(x.sample(n, 0)) + Math.abs(x.sample(n, 1)), 0);
        }
        Check.same("peak of 1", x.hunt(0, 0, 1, 1), 1);
        Check.same("the first one", x.hunt(0, 0, 1, 0), 0);
        Check.same("rival of 1", x.hunt(0, 0, 1, 2), 1);
        Check.same("acquired", x.hunt(0, 0, 1, 3), 1);
        Check.same("not by 11", Run.of(four + "11;").hunt(0, 0, 1, 3), 0);
        Check.same("a channel by it", x.lock(0, 0), 0);
        Check.same("its BASE", x.channel(0, 4), 1);
        // Turned so that the sample is 6, 4: only the two chips of -1 have sums below 0, around start 0.
        Run near = Run.of(four.replace(" 10 1;", " 6 1;").replace(" 3 1;", " 13 1;") + "99;");
        Check.same("sample 0 by now", near.sample(0, 1), 4);
        Check.same("peak of 2", near.hunt(0, 0, 1, 1), 2);
        Check.same("at start 0", near.hunt(0, 0, 1, 0), 0);
        Check.same("no rival", near.hunt(0, 0, 1, 2), 0);
        Check.same("acquired by any ratio", near.hunt(0, 0, 1, 3), 1);
    }

    /** "the POWERS of these together": each period for itself, so a BIT turned over takes nothing away. */
    private static void powersTogether() {
        Run x = Run.of("bird a 4;heard a 0 7 0 8;send a 1 5;");
        Check.same("one", x.hunt(0, 0, 1, 1), 775 * 775);
        for (int m = 1; m <= 4; m++) {
            Check.same("together " + m, x.hunt(0, 0, m, 1), m * 775 * 775);
            Check.same("to the last " + m, x.hunt(0, 200 - m, m, 1), m * 775 * 775);
        }
        Run faded = Run.of("bird a 4;heard a 0 7 0 8;fade a 2;");
        Check.same("two of four", faded.hunt(0, 0, 4, 1), 2 * 775 * 775);
        Check.same("one of three", faded.hunt(0, 1, 3, 1), 775 * 775);
    }
}
