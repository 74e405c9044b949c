/** Promise 14: sum; and SUM, POWER, CELLS of section 3. */
public final class Promise14SumTest {
    private static final int[] TABLE = {10, 9, 7, 4, 0, -4, -7, -9, -10, -9, -7, -4, 0, 4, 7, 9};
    /** All chips are 1 by these masks. */
    private static final String ONES = "first 1;second 1;bird a 0;";

    public static void main(String[] args) {
        by64Downwards();
        sampleBySample();
        cellsOfStartAndShift();
        startsGoAround();
        theGreatest();
        noSuchOnes();
        Check.end("Promise14SumTest");
    }

    /** "both by 64 at last": 62 times 100 by 64 is 96, less that it is -97. */
    private static void by64Downwards() {
        Run one = Run.of(ONES + "heard a 0 7 0 1;");
        Check.same("I", one.sum(0, 0, 434, 0, 0), 96);
        Check.same("Q", one.sum(0, 0, 434, 0, 1), 0);
        Check.same("POWER", one.sum(0, 0, 434, 0, 2), 9216);
        Check.same("I, turned over", one.sum(0, 0, 434, 8, 0), -97);
        Check.same("POWER, turned over", one.sum(0, 0, 434, 8, 2), 9409);
        Check.same("I, a quarter", one.sum(0, 0, 434, 4, 0), 0);
        Check.same("Q, a quarter", one.sum(0, 0, 434, 4, 1), -97);
        Check.same("Q, three quarters", one.sum(0, 0, 434, 12, 1), 96);
        Check.same("POWER, three quarters", one.sum(0, 0, 434, 12, 2), 9216);
        // 8 strong it is 775 without a rest, either way.
        Run eight = Run.of(ONES + "heard a 0 7 0 8;");
        Check.same("I", eight.sum(0, 199, 434, 0, 0), 775);
        Check.same("I, turned over", eight.sum(0, 199, 434, 8, 0), -775);
    }

    private static int angle(int n, int shift, int turn) {
        return Math.floorMod(Math.floorDiv((shift - 7) * n, 8) + turn, 16);
    }

    private static void sumOf(Run x, int bird, int period, int cell, int turn) {
        int i = 0;
        int q = 0;
        for (int n = 62 * period; n < 62 * period + 62; n++) {
            int chip = x.chip(bird, Math.floorMod(n - cell % 62, 62) / 2);
            int cos = TABLE[angle(n, cell / 62, turn)];
            int sin = TABLE[(angle(n, cell / 62, turn) + 12) % 16];
            i += chip * (x.sample(n, 0) * cos + x.sample(n, 1) * sin);
            q += chip * (x.sample(n, 1) * cos - x.sample(n, 0) * sin);
        }
        i = Math.floorDiv(i, 64);
        q = Math.floorDiv(q, 64);
        String call = "sum " + bird + " " + period + " " + cell + " " + turn + " ";
        Check.same(call + 0, x.sum(bird, period, cell, turn, 0), i);
        Check.same(call + 1, x.sum(bird, period, cell, turn, 1), q);
        Check.same(call + 2, x.sum(bird, period, cell, turn, 2), i * i + q * q);
    }

    private static void sampleBySample() {
        Run x = Run.of("bird a 3;bird b 9;heard a 4 9 3 5;heard b 50 2 0 9;noise 30;seed 4;send b 1 9;drift a 2;");
        for (int cell = 0; cell < 930; cell += 13) {
            sumOf(x, 0, cell % 200, cell, cell % 16);
            sumOf(x, 1, 199 - cell % 200, 929 - cell, 15 - cell % 16);
        }
    }

    /** "CELLS: 62 times SHIFT and start". */
    private static void cellsOfStartAndShift() {
        for (int shift = 0; shift <= 14; shift++) {
            for (int start : new int[] {0, 1, 30, 61}) {
                Run x = Run.of("bird a 4;heard a " + start + " " + shift + " 0 8;");
                sumOf(x, 0, 0, 62 * shift + start, 0);
                Check.yes("found whole", x.sum(0, 0, 62 * shift + start, 0, 0) > 700);
                Check.yes("less beside it", x.sum(0, 0, 62 * shift + (start + 3) % 62, 0, 2) < 200000);
            }
        }
    }

    private static void startsGoAround() {
        Run x = Run.of("bird a 4;heard a 61 7 0 8;");
        Check.same("at start 61", x.sum(0, 5, 434 + 61, 0, 0), 775);
        Run first = Run.of("bird a 4;heard a 0 7 0 8;");
        Check.same("at start 0", first.sum(0, 5, 434, 0, 0), 775);
        // Of one start off to either side it is as much, at 61 as at 1.
        Check.same("at starts 61 and 1", first.sum(0, 5, 434 + 61, 0, 0), first.sum(0, 5, 434 + 1, 0, 0));
        sumOf(first, 0, 5, 434 + 61, 0);
    }

    private static void theGreatest() {
        StringBuilder text = new StringBuilder("first 1;second 1;noise 99;");
        for (char name = 'a'; name <= 'e'; name++) {
            text.append("bird ").append(name).append(" 0;heard ").append(name).append(" 0 7 0 9;");
        }
        Run x = Run.of(text.toString());
        sumOf(x, 4, 199, 434, 0);
        sumOf(x, 4, 199, 434, 2);
        sumOf(x, 4, 199, 434, 10);
    }

    /** "0: no such ones". */
    private static void noSuchOnes() {
        Run x = Run.of(ONES + "heard a 0 7 0 9;noise 99;bird b 2;");
        for (int bird : Check.beside(0, 1)) {
            Check.same("sum of bird " + bird, x.sum(bird, 0, 434, 0, 2), 0);
        }
        for (int period : Check.beside(0, 199)) {
            Check.same("sum at period " + period, x.sum(0, period, 434, 0, 2), 0);
        }
        for (int cell : Check.beside(0, 929)) {
            Check.same("sum of cell " + cell, x.sum(0, 0, cell, 0, 2), 0);
        }
        for (int turn : Check.beside(0, 15)) {
            Check.same("sum by turn " + turn, x.sum(0, 0, 434, turn, 2), 0);
        }
        for (int what : Check.beside(0, 2)) {
            Check.same("sum what " + what, x.sum(0, 0, 434, 0, what), 0);
        }
        Check.yes("bird 0, cell 0", x.sum(0, 0, 0, 0, 2) != 0);
        Check.yes("bird 1, period 199, cell 929, turn 15", x.sum(1, 199, 929, 15, 2) != 0);
        Check.leaves(x, "no such turn", 0, o -> o.sum(0, 0, 434, 16, 2));
        Check.same("of a new object", new Run().sum(0, 0, 0, 0, 0), 0);
    }
}
