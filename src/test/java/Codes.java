/** Codes for the tests, by hand: what goes out of registers, written out. */
final class Codes {
    /** What goes out by mask 5. */
    static final String BY_5 = "1111100011011101010000100101100";
    /** What goes out by mask 29. */
    static final String BY_29 = "1111101110001010110100001100100";
    /** What goes out by mask 3, which has all bits 1 again after 21 steps. */
    static final String BY_3 = "1111100001000110010101111100001";

    private Codes() {
    }

    /** CHIP i by what goes out of the two. */
    static int chip(String first, String second, int delay, int i) {
        return first.charAt(i) == second.charAt((i + delay) % 31) ? 1 : -1;
    }

    /** Chips of one times those of the other that are by so many steps further, together. */
    static int cross(int[] one, int[] other, int by) {
        int all = 0;
        for (int i = 0; i < 31; i++) {
            all += one[i] * other[(i + by) % 31];
        }
        return all;
    }

    static int[] code(String first, String second, int delay) {
        int[] chips = new int[31];
        for (int i = 0; i < 31; i++) {
            chips[i] = chip(first, second, delay, i);
        }
        return chips;
    }
}
