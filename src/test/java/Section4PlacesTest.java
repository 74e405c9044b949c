/** Section 4, that promises 33 to 38 ask for: DISTANCE, MEASURED, FIX. */
public final class Section4PlacesTest {
    public static void main(String[] args) {
        rootsGoDownwards();
        measuredWithoutError();
        errors();
        heldTo0();
        theMost();
        fixesOfMeasured();
        clocksAtTheEnds();
        clocksBetween();
        allPoints();
        firstByX();
        thenByYAndZ();
        thenByTheClock();
        byThoseThatHaveBoth();
        wordForWord();
        Check.end("Section4PlacesTest");
    }

    private static void rootsGoDownwards() {
        for (int dx = 0; dx <= 15; dx++) {
            for (int dy = 0; dy <= 15; dy += 3) {
                for (int dz = 0; dz <= 15; dz += 5) {
                    Run x = Run.of("bird a 0;bird b 0;place a 15 " + dy + " 0;place b " + (15 - dx) + " 0 " + dz + ";");
                    Check.same("distance by " + dx + " " + dy + " " + dz, x.distance(0, 1),
                        Places.distance(dx, dy, dz));
                }
            }
        }
        // Of 32 it is 5, of 48 it is 6, of 16 just 4.
        Check.same("of 32", Run.of("bird a 0;bird b 0;place a 0 0 0;place b 1 1 0;").distance(0, 1), 5);
        Check.same("of 48", Run.of("bird a 0;bird b 0;place a 0 0 0;place b 1 1 1;").distance(0, 1), 6);
        Check.same("of 16", Run.of("bird a 0;bird b 0;place a 0 0 0;place b 0 1 0;").distance(0, 1), 4);
        Check.same("the farthest", Run.of("bird a 0;bird b 0;place a 0 0 0;place b 15 15 15;").distance(0, 1), 103);
        Check.same("of one place", Run.of("bird a 0;bird b 0;place a 7 8 9;place b 7 8 9;").distance(0, 1), 0);
    }

    /** "DISTANCE to home and 4 times the clock". */
    private static void measuredWithoutError() {
        Run x = Run.of(Places.FIVE);
        Check.same("measure", x.measure(0), 5);
        int[][] ways = {{6, 7, 8}, {9, 7, 7}, {6, 8, 6}, {3, 7, 7}, {9, 8, 4}};
        for (int b = 0; b < 5; b++) {
            Check.same("measured " + b, x.range(b, 1), Places.distance(ways[b][0], ways[b][1], ways[b][2]) + 20);
        }
        Run home = Run.of("bird a 0;place a 5 6 7;home 5 6 7 0;");
        home.measure(0);
        Check.same("at home, clock 0", home.range(0, 1), 0);
        Run clock = Run.of("bird a 0;place a 5 6 7;home 5 6 7 20;");
        clock.measure(0);
        Check.same("at home, clock 20", clock.range(0, 1), 80);
    }

    /** "(seed and the BIRD's number and 1000) as for noise, modulo 2 times k and one, less k". */
    private static void errors() {
        for (int seed : new int[] {0, 1, 777, 99999}) {
            for (int k = 0; k <= 20; k++) {
                Run x = Run.of(Places.FIVE + "seed " + seed + ";noise 50;");
                Run right = Run.of(Places.FIVE);
                x.measure(k);
                right.measure(0);
                for (int b = 0; b < 5; b++) {
                    Check.same("error " + seed + " " + k + " " + b, x.range(b, 0),
                        right.range(b, 0) + Check.noise(seed + b + 1000, k, 0));
                }
            }
        }
        // The number is that of the BIRD, not of those with a place.
        Run last = Run.of("bird a 0;bird b 0;bird c 0;place c 1 1 1;home 1 1 1 20;");
        last.measure(20);
        Check.same("error of number 2", last.range(2, 0), 80 + Check.noise(1002, 20, 0));
    }

    /** "held to 0 .. 400": at home, by clock 0, an error below 0. */
    private static void heldTo0() {
        int below = 0;
        for (int seed = 0; seed < 20; seed++) {
            Run x = Run.of("bird a 0;place a 2 2 2;home 2 2 2 0;seed " + seed + ";");
            x.measure(20);
            int error = Check.noise(seed + 1000, 20, 0);
            below += error < 0 ? 1 : 0;
            Check.same("held " + seed, x.range(0, 0), Math.max(0, error));
        }
        Check.yes("errors are below 0", below > 3);
    }

    /** As far as can be it is 203: no RANGE is held to 400. */
    private static void theMost() {
        int most = 0;
        for (int seed = 0; seed < 60; seed++) {
            Run x = Run.of("bird a 0;place a 0 0 0;home 15 15 15 20;seed " + seed + ";");
            x.measure(20);
            int range = x.range(0, 0);
            Check.same("the farthest by seed " + seed, range, 183 + Check.noise(seed + 1000, 20, 0));
            most = Math.max(most, range);
        }
        Check.yes("errors are above 0", most > 183);
    }

    private static void fixesOfMeasured() {
        Run x = Run.of(Places.FIVE);
        x.measure(0);
        Places.fix("all five", x, 6, 7, 8, 20, 0);
        int[][] homes = {{0, 0, 0, 0}, {15, 15, 15, 20}, {0, 15, 7, 1}, {15, 0, 0, 20}};
        for (int[] home : homes) {
            Run y = Run.of(Places.FIVE.replace("home 6 7 8 5;",
                "home " + home[0] + " " + home[1] + " " + home[2] + " " + home[3] + ";"));
            y.measure(0);
            Check.same("REST", y.fix(4), 0);
            Places.fix("home", y, home[0], home[1], home[2], 4 * home[3]);
        }
    }

    /** "clocks 0 .. 99". */
    private static void clocksAtTheEnds() {
        Places.fix("clock 0", Places.ranged(Places.CORNER, 0, 0, 0, 0), 0, 0, 0, 0, 0);
        Places.fix("clock 99", Places.ranged(Places.CORNER, 99, 99, 99, 99), 0, 0, 0, 99, 0);
        // Of 100 there is none at the corner: a way of 4 and 96.
        Places.fix("no clock 100", Places.ranged(Places.CORNER, 100, 100, 100, 100), 0, 0, 1, 96, 0);
        // A mean of 99 and a half: 99 as well.
        Places.fix("the last clock", Places.ranged(Places.CORNER, 99, 99, 100, 100), 0, 0, 0, 99, 2);
        // As far off as can be: 103 and 99, so 198 are left of each.
        Places.fix("too far", Places.ranged(Places.CORNER, 400, 400, 400, 400), 15, 15, 15, 99, 4 * 198 * 198);
        // Two at the corner without a way, two in the far one: nowhere is a clock of less than 0.
        Places.fix("no clock below 0", Places.ranged("bird a 0;bird b 1;bird c 2;bird d 3;place a 0 0 0;place b 0 0 0;"
            + "place c 2 0 0;place d 2 0 0;", 0, 0, 0, 0), 1, 0, 0, 0, 4 * 16);
    }

    private static void clocksBetween() {
        // Of two alike the lower one: 10 and a half.
        Places.fix("10 and a half", Places.ranged(Places.CORNER, 10, 10, 11, 11), 0, 0, 0, 10, 2);
        Places.fix("10 and a quarter", Places.ranged(Places.CORNER, 10, 10, 10, 11), 0, 0, 0, 10, 1);
        Places.fix("10 and three quarters", Places.ranged(Places.CORNER, 10, 11, 11, 11), 0, 0, 0, 11, 1);
        Places.fix("a half", Places.ranged(Places.CORNER, 0, 0, 1, 1), 0, 0, 0, 0, 2);
        Places.fix("98 and a half", Places.ranged(Places.CORNER, 98, 98, 99, 99), 0, 0, 0, 98, 2);
        String five = Places.CORNER + "bird e 4;place e 0 0 0;";
        Places.fix("10 and two fifths", Places.ranged(five, 10, 10, 10, 11, 11), 0, 0, 0, 10, 2);
        Places.fix("10 and three fifths", Places.ranged(five, 10, 10, 11, 11, 11), 0, 0, 0, 11, 2);
    }

    /** "of all points 0 .. 15 by 0 .. 15 by 0 .. 15": each corner of them. */
    private static void allPoints() {
        for (int corner = 0; corner < 8; corner++) {
            int x = 15 * (corner & 1);
            int y = 15 * (corner >> 1 & 1);
            int z = 15 * (corner >> 2 & 1);
            Run r = Run.of("bird a 0;bird b 1;bird c 2;bird d 3;bird e 4;place a 1 2 3;place b 14 1 5;place c 3 13 2;"
                + "place d 2 5 14;place e 8 8 8;home " + x + " " + y + " " + z + " 10;");
            r.measure(0);
            Check.same("corner " + corner, r.fix(4), 0);
            Oracle o = Oracle.of("bird a 0;bird b 1;bird c 2;bird d 3;bird e 4;place a 1 2 3;place b 14 1 5;"
                + "place c 3 13 2;place d 2 5 14;place e 8 8 8;home " + x + " " + y + " " + z + " 10;");
            o.measure(0);
            Places.fix("corner " + corner, r, o.fix(0), o.fix(1), o.fix(2), o.fix(3), 0);
        }
    }

    /** "of several the first by x": all are in a plane, what is at one side is at the other as well. */
    private static void firstByX() {
        String plane = "bird a 0;bird b 1;bird c 2;bird d 3;place a 8 0 0;place b 8 15 0;place c 8 0 15;place d 8 15 15;";
        Run x = Run.of(plane + "home 13 4 6 2;");
        x.measure(0);
        Places.fix("a plane across x", x, 3, 4, 6, 8, 0);
    }

    /** "then y, z": on a line along x all points around it are alike. */
    private static void thenByYAndZ() {
        String line = "bird a 0;bird b 1;bird c 2;bird d 3;place a 0 8 8;place b 15 8 8;place c 4 8 8;place d 9 8 8;";
        for (String home : new String[] {"7 6 8 3", "7 10 8 3", "7 8 10 3", "7 8 6 3"}) {
            Run x = Run.of(line + "home " + home + ";");
            x.measure(0);
            Places.fix("home " + home, x, 7, 6, 8, 12, 0);
        }
        String plane = "bird a 0;bird b 1;bird c 2;bird d 3;place a 0 0 8;place b 15 0 8;place c 0 15 8;place d 15 15 8;";
        Run z = Run.of(plane + "home 4 6 13 2;");
        z.measure(0);
        Places.fix("a plane across z", z, 4, 6, 3, 8, 0);
        String other = "bird a 0;bird b 1;bird c 2;bird d 3;place a 0 8 0;place b 15 8 0;place c 0 8 15;place d 15 8 15;";
        Run y = Run.of(other + "home 4 13 6 2;");
        y.measure(0);
        Places.fix("a plane across y", y, 4, 3, 6, 8, 0);
    }

    /** "the clock": the point goes ahead of it, the least clock is not the first. */
    private static void thenByTheClock() {
        // At the corner a clock of 4, beside it one of 0: the corner is the first point.
        Places.fix("a clock of 4", Places.ranged(Places.CORNER, 4, 4, 4, 4), 0, 0, 0, 4, 0);
        Places.fix("clocks 10 and 11 are alike", Places.ranged(Places.CORNER, 8, 10, 11, 13), 0, 0, 0, 10, 14);
    }

    /** "of some BIRDS that have a place and a RANGE, four at least". */
    private static void byThoseThatHaveBoth() {
        Run x = Run.of(Places.FIVE);
        x.measure(0);
        x.range(4, 300);
        Check.yes("one is wrong", x.fix(4) > 0);
        x.range(4, -1);
        Places.fix("without a range it doesn't count", x, 6, 7, 8, 20, 0);
        Run y = Run.of(Places.FIVE.replace("place e 15 15 12;", ""));
        y.measure(0);
        y.range(4, 300);
        Check.same("REST without its place", y.fix(4), 0);
        y.range(0, -1);
        Check.same("three", y.fix(4), -2);
    }

    private static void wordForWord() {
        for (int k = 0; k < 12; k++) {
            String text = Places.FIVE.replace("home 6 7 8 5;", "home " + k + " " + (15 - k) + " 3 " + k + ";seed " + k + ";");
            Run x = Run.of(text);
            Oracle o = Oracle.of(text);
            x.measure(k + 3);
            o.measure(k + 3);
            if (k % 3 == 0) {
                x.range(k % 5, 100 + 25 * k);
                o.range(k % 5, 100 + 25 * k);
            }
            for (int what = 0; what < 5; what++) {
                Check.same("fix " + what + " of " + k, x.fix(what), o.fix(what));
            }
        }
    }
}
