/** Promise 8: period. */
public final class Promise08PeriodTest {
    /** Of masks 1 .. 31. */
    private static final int[] DUE = {1, 1, 21, 1, 31, -2, 1, 1, 31, -2, 1, -2, 1, 1, 31, 1, 21, -2, 1, -2, 1, 1, 31, -2,
        1, 1, 31, 1, 31, -2, 1};

    public static void main(String[] args) {
        ofEachMask();
        oneAtLeast();
        never();
        noSuchMask();
        theMasksToldDontMatter();
        Check.end("Promise08PeriodTest");
    }

    private static void ofEachMask() {
        for (int mask = 1; mask <= 31; mask++) {
            Check.same("period " + mask, new Run().period(mask), DUE[mask - 1]);
        }
    }

    /** "1 at least": it has all bits 1 at first, which doesn't count. An odd number of bits: they stay 1. */
    private static void oneAtLeast() {
        Run x = new Run();
        for (int mask = 1; mask <= 31; mask++) {
            if (Integer.bitCount(mask) % 2 == 1) {
                Check.same("period " + mask, x.period(mask), 1);
            }
        }
    }

    /** Without its lowest bit a mask of two or four never has them 1 again: the first 0 goes out for good. */
    private static void never() {
        Run x = new Run();
        for (int mask : new int[] {6, 10, 12, 18, 20, 24, 30}) {
            Check.same("period " + mask, x.period(mask), -2);
        }
        Check.same("the longest", x.period(5), 31);
    }

    private static void noSuchMask() {
        Run x = new Run();
        Check.same("mask 1", x.period(1), 1);
        Check.same("mask 31", x.period(31), 1);
        for (int mask : Check.beside(1, 31)) {
            Check.same("mask " + mask, x.period(mask), -1);
        }
        Check.same("mask 64", x.period(64), -1);
        Check.same("mask 37", x.period(37), -1);
    }

    private static void theMasksToldDontMatter() {
        Run x = Run.of("first 3;second 6;bird a 3;");
        Check.same("period 5", x.period(5), 31);
        Check.same("period 3", x.period(3), 21);
    }
}
