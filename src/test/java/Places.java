/** What the tests of places share. */
final class Places {
    /** Five at places of which no four are in a plane, and a home. */
    static final String FIVE = "bird a 0;bird b 1;bird c 2;bird d 3;bird e 4;place a 0 0 0;place b 15 0 1;"
        + "place c 0 15 2;place d 3 0 15;place e 15 15 12;home 6 7 8 5;";
    /** Four at one place. */
    static final String CORNER = "bird a 0;bird b 1;bird c 2;bird d 3;place a 0 0 0;place b 0 0 0;place c 0 0 0;"
        + "place d 0 0 0;";

    private Places() {
    }

    /** With ranges by hand, of birds from the first one on. */
    static Run ranged(String text, int... ranges) {
        Run x = Run.of(text);
        for (int b = 0; b < ranges.length; b++) {
            Check.same("range of " + b, x.range(b, ranges[b]), -1);
        }
        return x;
    }

    /** The point, the clock, REST. */
    static void fix(String what, Run x, int... due) {
        for (int k = 0; k < due.length; k++) {
            Check.same(what + ": fix " + k, x.fix(k), due[k]);
        }
    }

    /** The root of 16 times the squares of the three differences together, downwards. */
    static int distance(int dx, int dy, int dz) {
        int square = 16 * (dx * dx + dy * dy + dz * dz);
        int root = 0;
        while ((root + 1) * (root + 1) <= square) {
            root++;
        }
        return root;
    }
}
