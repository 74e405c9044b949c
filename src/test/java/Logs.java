import java.util.ArrayList;
import java.util.List;

/** FRAMES of a LOG as the document tells them, by the LOG's BITS as a text. */
final class Logs {
    private Logs() {
    }

    static String log(Run x, int channel) {
        StringBuilder log = new StringBuilder();
        for (int i = 0; i < x.channel(channel, 8); i++) {
            log.append(x.logged(channel, i));
        }
        return log.toString();
    }

    private static boolean rightParity(String bits) {
        boolean right = true;
        for (int j = 0; j < 4; j++) {
            int ones = bits.charAt(12 + j) - '0';
            for (int number = 1; number <= 8; number++) {
                ones += (number >> j & 1) * (bits.charAt(3 + number) - '0');
            }
            right &= ones % 2 == 0;
        }
        return right;
    }

    private static String turnedOver(String bits) {
        return bits.replace('0', 'x').replace('1', '0').replace('x', '1');
    }

    /** Of each frame its place, KIND, VALUE, whether turned over; at last how many places are BAD. */
    static List<int[]> read(String log) {
        List<int[]> found = new ArrayList<>();
        int bad = 0;
        int at = 0;
        while (at + 16 <= log.length()) {
            String bits = log.substring(at, at + 16);
            boolean over = bits.startsWith("0100");
            bits = over ? turnedOver(bits) : bits;
            if (!bits.startsWith("1011")) {
                at++;
            } else if (rightParity(bits)) {
                found.add(new int[] {at, Integer.parseInt(bits.substring(4, 6), 2),
                    Integer.parseInt(bits.substring(6, 12), 2), over ? 1 : 0});
                at += 16;
            } else {
                bad++;
                at++;
            }
        }
        found.add(new int[] {bad});
        return found;
    }

    /** Holds all that is told of frames and bad places of a channel against its log. */
    static List<int[]> same(Run x, int channel) {
        List<int[]> due = read(log(x, channel));
        int many = due.size() - 1;
        Check.same("frames", x.frame(channel, -1, 0), many);
        for (int k = 0; k < many; k++) {
            for (int what = 0; what < 4; what++) {
                Check.same("frame " + k + " " + what, x.frame(channel, k, what), due.get(k)[what]);
            }
        }
        Check.same("a frame more", x.frame(channel, many, 0), -2);
        Check.same("bad", x.bad(channel), due.get(many)[0]);
        for (int kind = 0; kind < 4; kind++) {
            int latest = -2;
            for (int k = 0; k < many; k++) {
                latest = due.get(k)[1] == kind ? due.get(k)[2] : latest;
            }
            Check.same("latest " + kind, x.latest(channel, kind), latest);
        }
        return due;
    }
}
