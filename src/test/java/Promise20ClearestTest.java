import java.math.BigInteger;

/** Promise 20: clearest. */
public final class Promise20ClearestTest {
    public static void main(String[] args) {
        theGreatestQuotient();
        notCut();
        theFirst();
        ofOne();
        withoutARival();
        noSuchOnes();
        Check.end("Promise20ClearestTest");
    }

    private static int best(Run x, int bird, int period, int n) {
        int best = period;
        for (int p = period + 1; p < period + n; p++) {
            BigInteger power = BigInteger.valueOf(x.hunt(bird, p, 1, 1));
            BigInteger rival = BigInteger.valueOf(Math.max(1, x.hunt(bird, p, 1, 2)));
            BigInteger bestPower = BigInteger.valueOf(x.hunt(bird, best, 1, 1));
            BigInteger bestRival = BigInteger.valueOf(Math.max(1, x.hunt(bird, best, 1, 2)));
            best = power.multiply(bestRival).compareTo(bestPower.multiply(rival)) > 0 ? p : best;
        }
        return best;
    }

    private static void theGreatestQuotient() {
        int[] seen = new int[8];
        for (int seed = 0; seed < 12; seed++) {
            Run x = Run.of("bird a 3;heard a 20 7 0 1;noise 40;seed " + seed + ";");
            for (int period : new int[] {0, 50, 192}) {
                int due = best(x, 0, period, 8);
                seen[due - period]++;
                Check.same("clearest " + seed + " from " + period, x.clearest(0, period, 8), due);
                Check.same("of three " + seed, x.clearest(0, period, 3), best(x, 0, period, 3));
            }
        }
        for (int k = 0; k < 8; k++) {
            Check.yes("number " + k + " is seen", seen[k] > 0);
        }
        // As loud as can be: the products are far above 31 bits.
        StringBuilder text = new StringBuilder("noise 99;");
        for (char name = 'a'; name <= 'e'; name++) {
            text.append("bird ").append(name).append(" 4;heard ").append(name).append(" 3 7 0 9;");
        }
        Run loud = Run.of(text.toString());
        for (int period = 0; period < 190; period += 19) {
            Check.same("clearest of the loudest from " + period, loud.clearest(0, period, 8), best(loud, 0, period, 8));
        }
    }

    /** "the quotients as they are, not cut": of more than one by a hair. */
    private static void notCut() {
        int seen = 0;
        for (int seed = 0; seed < 40; seed++) {
            Run x = Run.of("bird a 3;heard a 20 7 0 5;noise 30;seed " + seed + ";");
            int due = best(x, 0, 10, 8);
            int cut = 10;
            for (int p = 11; p < 18; p++) {
                cut = x.hunt(0, p, 1, 1) / x.hunt(0, p, 1, 2) > x.hunt(0, cut, 1, 1) / x.hunt(0, cut, 1, 2) ? p : cut;
            }
            seen += due != cut ? 1 : 0;
            Check.same("clearest by seed " + seed, x.clearest(0, 10, 8), due);
        }
        Check.yes("cut it would be another", seen > 0);
    }

    /** "the first one" of those alike. */
    private static void theFirst() {
        // The codes of ones have a rival as strong everywhere: all quotients are 1.
        Check.same("all alike", Run.of("first 1;second 1;bird a 0;heard a 9 7 0 1;").clearest(0, 30, 8), 30);
        Check.same("all alike to the last one", Run.of("first 1;second 1;bird a 0;heard a 9 7 0 9;").clearest(0, 192, 8),
            192);
        Check.same("nothing heard", Run.of("bird a 0;").clearest(0, 20, 8), 20);
    }

    private static void ofOne() {
        for (int period : new int[] {0, 7, 199}) {
            Check.same("of one", Run.of("bird a 0;heard a 3 3 3 3;noise 9;").clearest(0, period, 1), period);
            Check.same("of one not heard", Run.of("bird a 0;").clearest(0, period, 1), period);
        }
    }

    /** "(1, if that is 0)": a period in which nothing is heard has nothing by one, the least of all. */
    private static void withoutARival() {
        Run x = Run.of("bird a 0;heard a 0 7 0 1;fade a 31;");
        Check.same("behind its fading", x.clearest(0, 30, 8), 30);
        Check.same("the best ahead of it", x.clearest(0, 25, 8), best(x, 0, 25, 6));
        Check.same("all behind it", x.clearest(0, 31, 8), 31);
        Check.same("to the last one", x.clearest(0, 192, 8), 192);
        // Two birds that take one another away until one of them fades; then all cells are alike, a quotient of 1.
        Run pair = Run.of("first 1;second 1;bird a 0;bird b 0;heard a 9 7 0 1;heard b 9 7 8 1;fade b 34;");
        Check.same("rival ahead of the fading", pair.hunt(0, 33, 1, 2), 0);
        Check.same("peak behind it", pair.hunt(0, 34, 1, 1), pair.hunt(0, 34, 1, 2));
        Check.same("1 is more than nothing by one", pair.clearest(0, 30, 8), 34);
        Check.same("just ahead of it", pair.clearest(0, 33, 2), 34);
        Check.same("none behind it", pair.clearest(0, 30, 4), 30);
        rivalOfNothing();
    }

    /** A PEAK of 2 with a RIVAL of 0: its quotient is 2, less than one of 5 by 2, more than one below 2. */
    private static void rivalOfNothing() {
        Run x = Run.of("first 30;second 30;bird a 5;bird b 5;bird c 5;bird d 5;heard a 1 7 6 1;heard b 1 7 13 1;"
            + "heard c 1 7 6 1;heard d 1 7 13 1;send a 2 0;send b 2 0;");
        int[][] due = {{2, 0}, {4885, 3328}, {5, 2}, {0, 0}, {0, 0}, {4885, 3328}, {5002, 3233}};
        for (int period = 0; period < due.length; period++) {
            Check.same("peak at " + period, x.hunt(0, period, 1, 1), due[period][0]);
            Check.same("rival at " + period, x.hunt(0, period, 1, 2), due[period][1]);
        }
        Check.same("2 ahead of less", x.clearest(0, 0, 2), 0);
        Check.same("5 by 2 behind 2", x.clearest(0, 0, 3), 2);
        Check.same("of all", x.clearest(0, 0, 8), 2);
        Check.same("nothing by one ahead of more", x.clearest(0, 3, 3), 5);
        Check.same("more behind it", x.clearest(0, 3, 4), 6);
    }

    private static void noSuchOnes() {
        Run x = Run.of("bird a 0;heard a 9 7 0 1;bird b 1;");
        for (int n = 1; n <= 8; n++) {
            Check.same("just below 200", x.clearest(0, 200 - n, n), best(x, 0, 200 - n, n));
            Check.same("one beyond", x.clearest(0, 201 - n, n), -1);
            Check.same("from 200 on", x.clearest(0, 200, n), -1);
        }
        for (int n : Check.beside(1, 8)) {
            Check.same("clearest of " + n, x.clearest(0, 0, n), -1);
            Check.same("clearest of " + n + " at the end", x.clearest(0, 199, n), -1);
        }
        for (int bird : Check.beside(0, 1)) {
            Check.same("clearest of bird " + bird, x.clearest(bird, 0, 1), -1);
        }
        for (int period : Check.beside(0, 199)) {
            for (int n = 1; n <= 8; n++) {
                Check.same("clearest from " + period, x.clearest(0, period, n), -1);
            }
        }
        Run y = Run.of("bird a 0;heard a 9 7 0 1;");
        Check.leaves(y, "clearest", best(x, 0, 5, 8), o -> o.clearest(0, 5, 8));
        Check.same("of a new object", new Run().clearest(0, 0, 1), -1);
    }
}
