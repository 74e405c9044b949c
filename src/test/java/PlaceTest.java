/** Promises 32 to 38: ranges, measured and by hand, fixes, the suspect, the spread, distances. */
public final class PlaceTest {
    private static final int[] WRONG = {-1, Integer.MIN_VALUE, Integer.MAX_VALUE};
    private static final String FIVE = "bird a 0;bird b 1;bird c 2;bird d 3;bird e 4;place a 0 0 0;place b 15 0 1;"
        + "place c 0 15 2;place d 3 0 15;place e 15 15 12;home 6 7 8 5;";

    public static void main(String[] args) {
        distances();
        ranges();
        measures();
        errorsOfRanges();
        fixes();
        clocksAtTheEdges();
        firstOfSeveral();
        without();
        suspects();
        spreads();
        wrongOnes();
        Check.end("PlaceTest");
    }

    private static void distances() {
        String birds = "bird a 0;bird b 1;bird c 2;bird d 3;bird e 4;";
        BirdCodes x = Check.of(birds + "place a 0 0 0;place b 15 15 15;place c 1 1 1;place d 15 0 0;");
        int[][] due = {{0, 103, 6, 60, -2}, {103, 0, 96, 84, -2}, {6, 96, 0, 56, -2}, {60, 84, 56, 0, -2},
            {-2, -2, -2, -2, -2}};
        for (int one = 0; one < 5; one++) {
            for (int other = 0; other < 5; other++) {
                Check.same("distance " + one + " " + other, x.distance(one, other), due[one][other]);
            }
        }
        for (int wrong : new int[] {-1, 5, Integer.MIN_VALUE, Integer.MAX_VALUE}) {
            Check.same("distance 0 " + wrong, x.distance(0, wrong), -1);
            Check.same("distance " + wrong + " 0", x.distance(wrong, 0), -1);
            Check.same("NONE ahead of -2", x.distance(4, wrong), -1);
        }
        for (int dx = 0; dx < 16; dx++) {
            for (int dz = 0; dz < 16; dz += 5) {
                int way = Check.of("bird a 0;bird b 0;place a 15 3 " + dz + ";place b " + (15 - dx) + " 5 0;")
                    .distance(0, 1);
                int square = 16 * (dx * dx + 4 + dz * dz);
                Check.same("root of " + square, way * way <= square && (way + 1) * (way + 1) > square ? 1 : 0, 1);
            }
        }
    }

    private static void ranges() {
        BirdCodes x = Check.of("bird a 0;bird b 1;");
        Check.same("range 0", x.range(0, 0), -1);
        Check.same("range 400", x.range(0, 400), 0);
        Check.same("range 1", x.range(1, 7), -1);
        Check.same("none", x.range(0, -1), 400);
        Check.same("none again", x.range(0, -1), -1);
        Check.same("count", x.count(6), 1);
        Check.same("undone", x.count(12), 5);
        for (int wrong : new int[] {-2, 401, Integer.MIN_VALUE, Integer.MAX_VALUE}) {
            Check.same("range of 1: " + wrong, x.range(1, wrong), -2);
        }
        for (int wrong : new int[] {-1, 2, Integer.MIN_VALUE, Integer.MAX_VALUE}) {
            Check.same("range of bird " + wrong, x.range(wrong, 5), -2);
        }
        Check.same("refused ones can't be undone", x.count(12), 5);
        Check.same("it stays", x.range(1, 7), 7);
    }

    private static void measures() {
        BirdCodes x = Check.of(FIVE);
        Check.same("measure", x.measure(0), 5);
        int[] square = {36 + 49 + 64, 81 + 49 + 49, 36 + 64 + 36, 9 + 49 + 49, 81 + 64 + 16};
        for (int b = 0; b < 5; b++) {
            int way = 0;
            while ((way + 1) * (way + 1) <= 16 * square[b]) {
                way++;
            }
            Check.same("measured " + b, x.range(b, 1), way + 20);
        }
        BirdCodes some = Check.of("home 0 0 0 0;bird a 0;bird b 0;place b 3 4 0;");
        Check.same("by hand", some.range(0, 33), -1);
        Check.same("measure", some.measure(0), 1);
        Check.same("of one without a place it stays", some.range(0, 33), 33);
        Check.same("measured", some.range(1, -1), 20);
        BirdCodes none = Check.of("home 0 0 0 0;bird a 0;");
        Check.same("measure of none", none.measure(20), 0);
        Check.same("it can be undone", none.count(12), 1);
        BirdCodes homeless = Check.of("bird a 0;place a 1 1 1;");
        Check.same("no home", homeless.measure(0), -2);
        Check.same("NONE ahead of -2", homeless.measure(21), -1);
        Check.same("NONE ahead of -2", homeless.measure(-1), -1);
        Check.same("none can be undone", homeless.count(12), 0);
        for (int wrong : new int[] {-1, 21, Integer.MIN_VALUE, Integer.MAX_VALUE}) {
            Check.same("measure " + wrong, x.measure(wrong), -1);
        }
        Check.same("home 0 0 0 0 is one", some.measure(20), 1);
    }

    private static void errorsOfRanges() {
        for (int seed : new int[] {0, 1, 777, 99999}) {
            for (int k = 0; k <= 20; k++) {
                BirdCodes x = Check.of(FIVE + "seed " + seed + ";noise 50;");
                BirdCodes right = Check.of(FIVE);
                x.measure(k);
                right.measure(0);
                for (int b = 0; b < 5; b++) {
                    long number = ((seed + b + 1000) * 1103515245L + 12345) % (1L << 31);
                    int error = (int) (number / 65536 % (2 * k + 1)) - k;
                    Check.same("error " + seed + " " + k + " " + b, x.range(b, 0), right.range(b, 0) + error);
                }
            }
        }
        // Held to 0: at home, by clock 0, an error below 0.
        int least = 0;
        for (int seed = 0; seed < 20; seed++) {
            BirdCodes x = Check.of("bird a 0;place a 2 2 2;home 2 2 2 0;seed " + seed + ";");
            x.measure(20);
            long number = ((seed + 1000) * 1103515245L + 12345) % (1L << 31);
            int error = (int) (number / 65536 % 41) - 20;
            least = Math.min(least, error);
            Check.same("held " + seed, x.range(0, 0), Math.max(0, error));
        }
        Check.same("an error is below 0", least < 0 ? 1 : 0, 1);
    }

    private static void same(BirdCodes x, int... due) {
        for (int what = 0; what < due.length; what++) {
            Check.same("fix " + what, x.fix(what), due[what]);
        }
    }

    private static BirdCodes ranged(String text, int... ranges) {
        BirdCodes x = Check.of(text);
        for (int b = 0; b < ranges.length; b++) {
            x.range(b, ranges[b]);
        }
        return x;
    }

    private static void fixes() {
        BirdCodes x = Check.of(FIVE);
        x.measure(0);
        same(x, 6, 7, 8, 20, 0);
        x.range(4, -1);
        Check.same("rest of four", x.fix(4), 0);
        x.range(3, -1);
        for (int what = 0; what < 5; what++) {
            Check.same("of three", x.fix(what), -2);
        }
        x.undo();
        Check.same("rest of four again", x.fix(4), 0);
        // One without a place, one without a range.
        BirdCodes three = ranged("bird a 0;bird b 1;bird c 2;bird d 3;bird e 4;place a 0 0 0;place b 15 0 1;"
            + "place c 0 15 2;place e 1 1 1;", 50, 50, 50, 50);
        Check.same("three have both", three.fix(0), -2);
        three.range(4, 50);
        Check.same("four have both", three.fix(0) >= 0 ? 1 : 0, 1);
    }

    private static void clocksAtTheEdges() {
        // All at one place: the way there is 0, only the clock counts.
        String one = "bird a 0;bird b 1;bird c 2;bird d 3;place a 0 0 0;place b 0 0 0;place c 0 0 0;place d 0 0 0;";
        same(ranged(one, 0, 0, 0, 0), 0, 0, 0, 0, 0);
        same(ranged(one, 99, 99, 99, 99), 0, 0, 0, 99, 0);
        // As far off as can be: 103 and 99, 198 left of each.
        same(ranged(one, 400, 400, 400, 400), 15, 15, 15, 99, 4 * 198 * 198);
        // A mean of 10 and a half: the lower clock.
        same(ranged(one, 10, 10, 11, 11), 0, 0, 0, 10, 2);
        same(ranged(one, 10, 10, 10, 11), 0, 0, 0, 10, 1);
        same(ranged(one, 10, 11, 11, 11), 0, 0, 0, 11, 1);
        // Ways of 4: at (0, 0, 1) all would be 4, and 0 of the clock.
        same(ranged(one, 4, 4, 4, 4), 0, 0, 0, 4, 0);
        // 99 and a half: 99 is the greatest one, and of a way of 4 the rest is alike.
        same(ranged(one, 99, 99, 100, 100), 0, 0, 0, 99, 2);
        same(ranged(one, 100, 100, 100, 100), 0, 0, 1, 96, 0);
    }

    private static void firstOfSeveral() {
        // On a line along x all points around it are alike: y ahead of z, the least ones.
        String line = "bird a 0;bird b 1;bird c 2;bird d 3;place a 0 8 8;place b 15 8 8;place c 4 8 8;place d 9 8 8;";
        BirdCodes x = Check.of(line + "home 7 6 8 3;");
        x.measure(0);
        same(x, 7, 6, 8, 12, 0);
        BirdCodes other = Check.of(line + "home 7 10 8 3;");
        other.measure(0);
        same(other, 7, 6, 8, 12, 0);
        BirdCodes third = Check.of(line + "home 7 8 10 3;");
        third.measure(0);
        same(third, 7, 6, 8, 12, 0);
        // Across in a plane: x ahead of all, the least one.
        String plane = "bird a 0;bird b 1;bird c 2;bird d 3;place a 8 0 0;place b 8 15 0;place c 8 0 15;"
            + "place d 8 15 15;";
        BirdCodes y = Check.of(plane + "home 13 4 6 2;");
        y.measure(0);
        same(y, 3, 4, 6, 8, 0);
    }

    private static void without() {
        BirdCodes x = Check.of(FIVE);
        x.measure(0);
        x.range(2, 200);
        Check.same("all five", x.fix(4) > 0 ? 1 : 0, 1);
        int[] due = {6, 7, 8, 20, 0};
        for (int what = 0; what < 5; what++) {
            Check.same("without 2: " + what, x.fixWithout(2, what), due[what]);
            Check.same("without 5: " + what, x.fixWithout(5, what), -1);
            Check.same("without -1: " + what, x.fixWithout(-1, what), -1);
        }
        Check.same("without 0", x.fixWithout(0, 4) > 0 ? 1 : 0, 1);
        x.range(4, -1);
        Check.same("it has no range", x.fixWithout(4, 0), -2);
        Check.same("three are left", x.fixWithout(0, 0), -2);
        Check.same("NONE ahead of -2", x.fixWithout(0, 5), -1);
        Check.same("NONE ahead of -2", x.fixWithout(5, 0), -1);
        BirdCodes four = Check.of("bird a 0;bird b 1;bird c 2;bird d 3;bird e 4;place b 15 0 1;place c 0 15 2;"
            + "place d 3 0 15;place e 15 15 12;home 6 7 8 5;");
        four.measure(0);
        four.range(0, 9);
        Check.same("four have both", four.fix(4), 0);
        Check.same("it has no place", four.fixWithout(0, 4), -2);
    }

    private static void suspects() {
        for (int b = 0; b < 5; b++) {
            for (int off : new int[] {-19, 40}) {
                BirdCodes x = Check.of(FIVE);
                x.measure(0);
                x.range(b, x.range(b, 0) + off);
                int best = 0;
                for (int other = 1; other < 5; other++) {
                    best = x.fixWithout(other, 4) < x.fixWithout(best, 4) ? other : best;
                }
                Check.same("suspect " + b + " by " + off, x.suspect(), best);
                Check.same("rest without it", x.fixWithout(b, 4), 0);
            }
        }
        BirdCodes x = Check.of(FIVE);
        x.measure(0);
        Check.same("of all alike the first", x.suspect(), 0);
        x.range(3, -1);
        Check.same("of four", x.suspect(), -2);
        BirdCodes last = Check.of(FIVE);
        last.measure(0);
        last.range(4, 300);
        Check.same("the last one", last.suspect(), 4);
    }

    private static void spreads() {
        // All at a corner: each point has a clock of no rest, as long as its way is within the range.
        String one = "bird a 0;bird b 1;bird c 2;bird d 3;place a 0 0 0;place b 0 0 0;place c 0 0 0;place d 0 0 0;";
        Check.same("all points", ranged(one, 101, 101, 101, 101).spread(9999), 4096);
        Check.same("the corner alone", ranged(one, 0, 0, 0, 0).spread(0), 1);
        // Those at a way of 4 have 4 of each too much.
        Check.same("below four times 16", ranged(one, 0, 0, 0, 0).spread(63), 1);
        Check.same("four times 16", ranged(one, 0, 0, 0, 0).spread(64), 4);
        // A way of 5, too: the root of 32.
        Check.same("four times 25", ranged(one, 0, 0, 0, 0).spread(100), 7);
        Check.same("too far", ranged(one, 400, 400, 400, 400).spread(9999), 0);
        BirdCodes x = Check.of(FIVE);
        x.measure(3);
        for (int limit : new int[] {0, 1, 9, 77, 400, 9999}) {
            int within = x.spread(limit);
            Check.same("spread " + limit, within > 0 ? 1 : 0, x.fix(4) <= limit ? 1 : 0);
        }
        x.range(0, -1);
        x.range(1, -1);
        Check.same("of three", x.spread(9), -2);
        Check.same("NONE ahead of -2", x.spread(10000), -1);
    }

    private static void wrongOnes() {
        BirdCodes x = Check.of(FIVE);
        x.measure(0);
        for (int wrong : WRONG) {
            Check.same("fix " + wrong, x.fix(wrong), -1);
            Check.same("fixWithout 0 " + wrong, x.fixWithout(0, wrong), -1);
            Check.same("fixWithout " + wrong, x.fixWithout(wrong, 0), -1);
            Check.same("spread " + wrong, x.spread(wrong), -1);
        }
        Check.same("fix 5", x.fix(5), -1);
        Check.same("fixWithout 0 5", x.fixWithout(0, 5), -1);
        Check.same("spread 10000", x.spread(10000), -1);
        Check.same("spread 9999", x.spread(9999) > 0 ? 1 : 0, 1);
        BirdCodes none = new BirdCodes();
        Check.same("NONE ahead of -2", none.fix(5), -1);
        Check.same("none", none.fix(0), -2);
        Check.same("suspect of none", none.suspect(), -2);
    }
}
