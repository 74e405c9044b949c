import java.util.ArrayDeque;
import java.util.ArrayList;
import java.util.Deque;
import java.util.List;

/**
 * The document once more, word for word and without any short cut, to hold the program against:
 * every sum is summed sample by sample, every point and clock is tried, logs are lists.
 */
final class Oracle {
    static final int[] TABLE = {10, 9, 7, 4, 0, -4, -7, -9, -10, -9, -7, -4, 0, 4, 7, 9};

    static final class B {
        String name;
        int delay;
        boolean heard;
        int start;
        int shift;
        int turn;
        int strength;
        int drift = -2;
        int fade = -2;
        int[] place;
        final List<int[]> sends = new ArrayList<>();
    }

    static final class Ch implements Cloneable {
        int bird;
        int point;
        int shift;
        int turn;
        int base;
        int next;
        int weak;
        int lost = -2;
        List<Integer> log = new ArrayList<>();

        Ch copy() {
            Ch c = new Ch();
            c.bird = bird;
            c.point = point;
            c.shift = shift;
            c.turn = turn;
            c.base = base;
            c.next = next;
            c.weak = weak;
            c.lost = lost;
            c.log = new ArrayList<>(log);
            return c;
        }
    }

    static final class Kept {
        final List<Ch> channels = new ArrayList<>();
        final int[] ranges = new int[5];
    }

    final List<B> birds = new ArrayList<>();
    int first = 5;
    int second = 29;
    int noise;
    int seed;
    int ratio = 15;
    int[] home;
    List<Ch> channels = new ArrayList<>();
    int[] ranges = {-1, -1, -1, -1, -1};
    Deque<Kept> past = new ArrayDeque<>();
    Kept image;

    /** Of a text without a fault. */
    static Oracle of(String text) {
        Oracle o = new Oracle();
        for (String line : text.trim().split(";")) {
            if (!line.isBlank()) {
                o.take(line.trim().split("[ \n]+"));
            }
        }
        return o;
    }

    private void take(String[] words) {
        boolean ofBird = Character.isLetter(words.length > 1 ? words[1].charAt(0) : '0');
        int[] numbers = new int[words.length - (ofBird ? 2 : 1)];
        for (int k = 0; k < numbers.length; k++) {
            numbers[k] = Integer.parseInt(words[words.length - numbers.length + k]);
        }
        if (ofBird) {
            takeOfBird(words[0], words[1], numbers);
            return;
        }
        switch (words[0]) {
            case "home": home = numbers; break;
            case "first": first = numbers[0]; break;
            case "second": second = numbers[0]; break;
            case "noise": noise = numbers[0]; break;
            case "seed": seed = numbers[0]; break;
            case "ratio": ratio = numbers[0]; break;
            default: throw new IllegalArgumentException(words[0]);
        }
    }

    private void takeOfBird(String word, String name, int[] numbers) {
        if (word.equals("bird")) {
            B one = new B();
            one.name = name;
            one.delay = numbers[0];
            birds.add(one);
            return;
        }
        B b = birds.stream().filter(one -> one.name.equals(name)).findFirst().orElseThrow();
        switch (word) {
            case "heard":
                b.heard = true;
                b.start = numbers[0];
                b.shift = numbers[1];
                b.turn = numbers[2];
                b.strength = numbers[3];
                break;
            case "drift": b.drift = numbers[0]; break;
            case "fade": b.fade = numbers[0]; break;
            case "send": b.sends.add(numbers); break;
            case "place": b.place = numbers; break;
            default: throw new IllegalArgumentException(word);
        }
    }

    // What a hunt leaves.
    int peak;
    long peakPower;
    long rival;

    boolean isBird(int b) {
        return b >= 0 && b < birds.size();
    }

    static boolean isPeriod(int p) {
        return p >= 0 && p <= 199;
    }

    int[] register(int mask) {
        int[] bits = {1, 1, 1, 1, 1};
        int[] out = new int[31];
        for (int i = 0; i < 31; i++) {
            out[i] = bits[0];
            step(bits, mask);
        }
        return out;
    }

    static void step(int[] bits, int mask) {
        int odd = 0;
        for (int k = 0; k < 5; k++) {
            if ((mask & (1 << k)) != 0) {
                odd += bits[k];
            }
        }
        for (int k = 0; k < 4; k++) {
            bits[k] = bits[k + 1];
        }
        bits[4] = odd % 2;
    }

    int[] chips(int delay) {
        int[] a = register(first);
        int[] b = register(second);
        int[] chips = new int[31];
        for (int i = 0; i < 31; i++) {
            chips[i] = a[i] == b[(i + delay) % 31] ? 1 : -1;
        }
        return chips;
    }

    int chip(int bird, int i) {
        return !isBird(bird) || i < 0 || i > 30 ? 0 : chips(birds.get(bird).delay)[i];
    }

    int period(int mask) {
        if (mask < 1 || mask > 31) {
            return -1;
        }
        int[] bits = {1, 1, 1, 1, 1};
        for (int k = 1; k < 1000; k++) {
            step(bits, mask);
            if (bits[0] + bits[1] + bits[2] + bits[3] + bits[4] == 5) {
                return k;
            }
        }
        return -2;
    }

    static int crossOf(int[] a, int[] b, int by) {
        int all = 0;
        for (int i = 0; i < 31; i++) {
            all += a[i] * b[(i + by) % 31];
        }
        return all;
    }

    int cross(int one, int other, int by) {
        if (!isBird(one) || !isBird(other) || by < 0 || by > 30) {
            return -99;
        }
        return crossOf(chips(birds.get(one).delay), chips(birds.get(other).delay), by);
    }

    int worst(int one, int other) {
        if (!isBird(one) || !isBird(other)) {
            return -2;
        }
        int worst = 0;
        for (int by = 0; by < 31; by++) {
            if (one != other || by != 0) {
                worst = Math.max(worst, Math.abs(cross(one, other, by)));
            }
        }
        return worst;
    }

    int quiet() {
        int best = -1;
        int least = 0;
        for (int delay = 0; delay < 31; delay++) {
            int greatest = 0;
            for (B b : birds) {
                for (int by = 0; by < 31; by++) {
                    greatest = Math.max(greatest, Math.abs(crossOf(chips(delay), chips(b.delay), by)));
                }
            }
            if (best < 0 || greatest < least) {
                best = delay;
                least = greatest;
            }
        }
        return best;
    }

    int startIn(B b, int period) {
        return b.drift < 0 ? b.start : b.start + period / b.drift;
    }

    static int[] subframe(int kind, int value) {
        int[] bits = new int[16];
        bits[0] = 1;
        bits[2] = 1;
        bits[3] = 1;
        bits[4] = kind / 2;
        bits[5] = kind % 2;
        for (int k = 0; k < 6; k++) {
            bits[6 + k] = value / (1 << (5 - k)) % 2;
        }
        for (int j = 0; j < 4; j++) {
            int odd = 0;
            for (int number = 1; number <= 8; number++) {
                if ((number >> j) % 2 == 1) {
                    odd += bits[3 + number];
                }
            }
            bits[12 + j] = odd % 2;
        }
        return bits;
    }

    int bitOf(B b, int number) {
        if (number < 0 || b.sends.isEmpty()) {
            return 0;
        }
        int[] send = b.sends.get(number / 16 % b.sends.size());
        return subframe(send[0], send[1])[number % 16];
    }

    int bit(int bird, int number) {
        return !isBird(bird) || number < 0 || number > 199 ? -1 : bitOf(birds.get(bird), number);
    }

    static int angle(int n, int shift, int turn) {
        return Math.floorMod(Math.floorDiv((shift - 7) * n, 8) + turn, 16);
    }

    static long chance31(long x) {
        return (x * 1103515245L + 12345L) % (1L << 31);
    }

    int[] sample(int n, int noise, int seed, int only) {
        int re = 0;
        int im = 0;
        int period = n / 62;
        for (int k = 0; k < birds.size(); k++) {
            B b = birds.get(k);
            if (!b.heard || (only >= 0 && only != k) || (b.fade >= 0 && b.fade <= period)) {
                continue;
            }
            int place = n - startIn(b, period);
            int chip = chips31(b)[Math.floorMod(place, 62) / 2];
            int sign = bitOf(b, Math.floorDiv(place, 62)) == 1 ? -1 : 1;
            int angle = angle(n, b.shift, b.turn);
            re += sign * b.strength * chip * TABLE[angle];
            im += sign * b.strength * chip * TABLE[(angle + 12) % 16];
        }
        long x = chance31(seed + n);
        re += (int) (x / 65536 % (2 * noise + 1)) - noise;
        x = chance31(x);
        im += (int) (x / 65536 % (2 * noise + 1)) - noise;
        return new int[] {re, im};
    }

    private final java.util.HashMap<Integer, int[]> codes = new java.util.HashMap<>();

    private int[] chips31(B b) {
        return codes.computeIfAbsent(b.delay, this::chips);
    }

    int sample(int n, int what) {
        return n < 0 || n > 12399 || what < 0 || what > 1 ? 0 : sample(n, noise, seed, -1)[what];
    }

    int[][] hear(int period, int noise, int seed, int only) {
        int[][] all = new int[62][];
        for (int k = 0; k < 62; k++) {
            all[k] = sample(62 * period + k, noise, seed, only);
        }
        return all;
    }

    int[] sums(int[][] samples, B b, int period, int start, int shift, int turn) {
        int[] chips = chips31(b);
        long i = 0;
        long q = 0;
        for (int k = 0; k < 62; k++) {
            int n = 62 * period + k;
            int angle = angle(n, shift, turn);
            int cos = TABLE[angle];
            int sin = TABLE[(angle + 12) % 16];
            int chip = chips[Math.floorMod(n - start, 62) / 2];
            i += chip * (samples[k][0] * cos + samples[k][1] * sin);
            q += chip * (samples[k][1] * cos - samples[k][0] * sin);
        }
        i = Math.floorDiv(i, 64L);
        q = Math.floorDiv(q, 64L);
        return new int[] {(int) i, (int) q, Math.toIntExact(i * i + q * q)};
    }

    int sum(int bird, int period, int cell, int turn, int what) {
        if (!isBird(bird) || !isPeriod(period) || cell < 0 || cell > 929 || turn < 0 || turn > 15
                || what < 0 || what > 2) {
            return 0;
        }
        return sums(hear(period, noise, seed, -1), birds.get(bird), period, cell % 62, cell / 62, turn)[what];
    }

    boolean huntAll(int bird, int period, int m, int noise, int seed, int only) {
        long[] powers = new long[930];
        for (int p = period; p < period + m; p++) {
            int[][] samples = hear(p, noise, seed, only);
            for (int cell = 0; cell < 930; cell++) {
                powers[cell] += sums(samples, birds.get(bird), p, cell % 62, cell / 62, 0)[2];
            }
        }
        peak = 0;
        for (int cell = 0; cell < 930; cell++) {
            if (powers[cell] > powers[peak]) {
                peak = cell;
            }
        }
        peakPower = powers[peak];
        rival = 0;
        for (int cell = 0; cell < 930; cell++) {
            int apart = Math.floorMod(cell % 62 - peak % 62, 62);
            if (apart >= 3 && apart <= 59) {
                rival = Math.max(rival, powers[cell]);
            }
        }
        return peakPower > 0 && 10 * peakPower >= ratio * rival;
    }

    boolean right(int bird, int period) {
        B b = birds.get(bird);
        return b.heard && peak % 62 == startIn(b, period) % 62 && peak / 62 == b.shift;
    }

    int hunt(int bird, int period, int m, int what) {
        if (!isBird(bird) || !isPeriod(period) || m < 1 || m > 4 || period + m > 200 || what < 0 || what > 3) {
            return -1;
        }
        boolean acquired = huntAll(bird, period, m, noise, seed, -1);
        return what == 0 ? peak : what == 1 ? (int) peakPower : what == 2 ? (int) rival : acquired ? 1 : 0;
    }

    int listen(int bird, int period) {
        if (!isBird(bird) || !isPeriod(period)) {
            return -1;
        }
        if (!birds.get(bird).heard) {
            return -2;
        }
        for (int m = 1; m <= 4; m++) {
            if (period + m <= 200 && huntAll(bird, period, m, noise, seed, -1) && right(bird, period)) {
                return m;
            }
        }
        return -3;
    }

    int clear(int bird, int period, int what) {
        if (!isBird(bird) || !isPeriod(period) || what < 0 || what > 2) {
            return -1;
        }
        return huntAll(bird, period, 1, what == 1 ? noise : 0, seed, what == 0 ? -1 : bird) ? 1 : 0;
    }

    int limit(int bird, int period) {
        if (!isBird(bird) || !isPeriod(period)) {
            return -1;
        }
        for (int other = 0; other <= 99; other += 9) {
            if (!huntAll(bird, period, 1, other, seed, -1)) {
                return other;
            }
        }
        return -2;
    }

    int chance(int bird, int period, int n, int what) {
        if (!isBird(bird) || !isPeriod(period) || n < 1 || n > 10 || what < 0 || what > 1) {
            return -1;
        }
        long x = seed;
        int times = 0;
        for (int k = 0; k < n; k++) {
            x = chance31(x);
            if (huntAll(bird, period, 1, noise, (int) (x % 100000), -1) && (what == 0 || right(bird, period))) {
                times++;
            }
        }
        return times;
    }

    int clearest(int bird, int period, int n) {
        if (!isBird(bird) || !isPeriod(period) || n < 1 || n > 8 || period + n > 200) {
            return -1;
        }
        int best = -1;
        java.math.BigDecimal greatest = null;
        for (int p = period; p < period + n; p++) {
            huntAll(bird, p, 1, noise, seed, -1);
            java.math.BigDecimal quotient = new java.math.BigDecimal(peakPower)
                .divide(new java.math.BigDecimal(rival == 0 ? 1 : rival), 60, java.math.RoundingMode.DOWN);
            if (greatest == null || quotient.compareTo(greatest) > 0) {
                best = p;
                greatest = quotient;
            }
        }
        return best;
    }

    int tune(int bird, int period, int start) {
        if (!isBird(bird) || !isPeriod(period) || start < 0 || start > 61) {
            return -1;
        }
        int[][] samples = hear(period, noise, seed, -1);
        int best = 0;
        int greatest = -1;
        for (int shift = 0; shift < 15; shift++) {
            int power = sums(samples, birds.get(bird), period, start, shift, 0)[2];
            if (power > greatest) {
                greatest = power;
                best = shift;
            }
        }
        return best;
    }

    Kept kept() {
        Kept k = new Kept();
        for (Ch c : channels) {
            k.channels.add(c.copy());
        }
        System.arraycopy(ranges, 0, k.ranges, 0, 5);
        return k;
    }

    void restore(Kept k) {
        channels = new ArrayList<>();
        for (Ch c : k.channels) {
            channels.add(c.copy());
        }
        ranges = k.ranges.clone();
    }

    void push() {
        past.addFirst(kept());
        if (past.size() > 10) {
            past.removeLast();
        }
    }

    int lock(int bird, int period) {
        if (!isBird(bird) || period < 0 || period > 198) {
            return -1;
        }
        if (!huntAll(bird, period, 1, noise, seed, -1)) {
            return -2;
        }
        if (channels.size() == 4) {
            return -3;
        }
        push();
        Ch c = new Ch();
        c.bird = bird;
        c.point = 4 * (peak % 62);
        c.shift = peak / 62;
        c.base = (int) peakPower;
        c.next = period + 1;
        channels.add(c);
        return channels.size() - 1;
    }

    int drop() {
        if (channels.isEmpty()) {
            return -1;
        }
        push();
        channels.remove(channels.size() - 1);
        return channels.size();
    }

    int follow(int n) {
        if (n < 1 || n > 64) {
            return -1;
        }
        push();
        return followAll(channels, n);
    }

    int followAll(List<Ch> all, int n) {
        int followed = 0;
        for (Ch c : all) {
            for (int k = 0; k < n && c.lost == -2 && c.next < 200; k++) {
                followOne(c);
                followed++;
            }
        }
        return followed;
    }

    void followOne(Ch c) {
        B b = birds.get(c.bird);
        int[][] samples = hear(c.next, noise, seed, -1);
        int at = c.point / 4;
        int[] prompt = sums(samples, b, c.next, at, c.shift, c.turn);
        long early = sums(samples, b, c.next, Math.floorMod(at - 1, 62), c.shift, c.turn)[2];
        long late = sums(samples, b, c.next, Math.floorMod(at + 1, 62), c.shift, c.turn)[2];
        if (early > late) {
            c.point = Math.floorMod(c.point - 1, 248);
        }
        if (early < late) {
            c.point = Math.floorMod(c.point + 1, 248);
        }
        int q = prompt[0] < 0 ? -prompt[1] : prompt[1];
        if (2 * Math.abs(q) > Math.abs(prompt[0])) {
            c.turn = Math.floorMod(c.turn + (q > 0 ? 1 : -1), 16);
        }
        c.log.add(prompt[0] < 0 ? 1 : 0);
        if (c.log.size() > 64) {
            c.log.remove(0);
        }
        c.weak = 4L * prompt[2] < c.base ? c.weak + 1 : 0;
        if (c.weak == 3) {
            c.lost = c.next;
        }
        c.next++;
    }

    boolean isChannel(int c) {
        return c >= 0 && c < channels.size();
    }

    int channel(int channel, int what) {
        if (!isChannel(channel) || what < 0 || what > 8) {
            return -1;
        }
        Ch c = channels.get(channel);
        return new int[] {c.bird, c.point, c.shift, c.turn, c.base, c.next, c.weak, c.lost, c.log.size()}[what];
    }

    int logged(int channel, int i) {
        if (!isChannel(channel) || i < 0 || i >= channels.get(channel).log.size()) {
            return -1;
        }
        return channels.get(channel).log.get(i);
    }

    /** Of each frame its place, kind, value, whether turned over; at last how many are bad. */
    static List<int[]> frames(List<Integer> log) {
        List<int[]> found = new ArrayList<>();
        int bad = 0;
        int at = 0;
        while (at + 16 <= log.size()) {
            List<Integer> bits = new ArrayList<>(log.subList(at, at + 16));
            String four = "" + bits.get(0) + bits.get(1) + bits.get(2) + bits.get(3);
            boolean over = four.equals("0100");
            if (over) {
                for (int k = 0; k < 16; k++) {
                    bits.set(k, 1 - bits.get(k));
                }
            }
            if (!over && !four.equals("1011")) {
                at++;
                continue;
            }
            int kind = 2 * bits.get(4) + bits.get(5);
            int value = 0;
            for (int k = 6; k < 12; k++) {
                value = 2 * value + bits.get(k);
            }
            boolean right = true;
            int[] should = subframe(kind, value);
            for (int k = 0; k < 16; k++) {
                right &= should[k] == bits.get(k);
            }
            if (right) {
                found.add(new int[] {at, kind, value, over ? 1 : 0});
                at += 16;
            } else {
                bad++;
                at++;
            }
        }
        found.add(new int[] {bad});
        return found;
    }

    int frame(int channel, int k, int what) {
        if (!isChannel(channel) || k < -1 || (k >= 0 && (what < 0 || what > 3))) {
            return -1;
        }
        List<int[]> found = frames(channels.get(channel).log);
        int many = found.size() - 1;
        return k == -1 ? many : k >= many ? -2 : found.get(k)[what];
    }

    int bad(int channel) {
        if (!isChannel(channel)) {
            return -1;
        }
        List<int[]> found = frames(channels.get(channel).log);
        return found.get(found.size() - 1)[0];
    }

    int errors(int channel) {
        if (!isChannel(channel)) {
            return -1;
        }
        Ch c = channels.get(channel);
        B b = birds.get(c.bird);
        if (!b.heard) {
            return -2;
        }
        int wrong = 0;
        int period = c.next;
        for (int i = c.log.size() - 1; i >= 0; i--) {
            period--;
            if (c.log.get(i) != bitOf(b, Math.floorDiv(62 * period + 31 - startIn(b, period), 62))) {
                wrong++;
            }
        }
        return Math.min(wrong, c.log.size() - wrong);
    }

    int latest(int channel, int kind) {
        if (!isChannel(channel) || kind < 0 || kind > 3) {
            return -1;
        }
        List<int[]> found = frames(channels.get(channel).log);
        int value = -2;
        for (int k = 0; k < found.size() - 1; k++) {
            if (found.get(k)[1] == kind) {
                value = found.get(k)[2];
            }
        }
        return value;
    }

    int off(int channel) {
        if (!isChannel(channel)) {
            return -1;
        }
        Ch c = channels.get(channel);
        B b = birds.get(c.bird);
        if (!b.heard) {
            return -2;
        }
        int way = Math.floorMod(c.point / 4 - startIn(b, Math.min(199, c.next)), 62);
        return Math.min(way, 62 - way);
    }

    int range(int bird, int range) {
        if (!isBird(bird) || range < -1 || range > 400) {
            return -2;
        }
        push();
        int was = ranges[bird];
        ranges[bird] = range;
        return was;
    }

    static int distanceOf(int[] a, int[] b) {
        long all = 0;
        for (int k = 0; k < 3; k++) {
            all += 16L * (a[k] - b[k]) * (a[k] - b[k]);
        }
        int root = 0;
        while ((long) (root + 1) * (root + 1) <= all) {
            root++;
        }
        return root;
    }

    int measure(int k) {
        if (k < 0 || k > 20) {
            return -1;
        }
        if (home == null) {
            return -2;
        }
        push();
        int many = 0;
        for (int b = 0; b < birds.size(); b++) {
            if (birds.get(b).place != null) {
                many++;
                int error = (int) (chance31(seed + b + 1000) / 65536 % (2 * k + 1)) - k;
                ranges[b] = Math.min(400, Math.max(0, distanceOf(birds.get(b).place, home) + 4 * home[3] + error));
            }
        }
        return many;
    }

    boolean both(int bird) {
        return birds.get(bird).place != null && ranges[bird] >= 0;
    }

    int manyBoth() {
        int many = 0;
        for (int b = 0; b < birds.size(); b++) {
            many += both(b) ? 1 : 0;
        }
        return many;
    }

    /** The point, the clock, the rest; then how many points are within the limit. */
    int[] solve(int without, int limit) {
        int[] best = null;
        int within = 0;
        for (int x = 0; x < 16; x++) {
            for (int y = 0; y < 16; y++) {
                for (int z = 0; z < 16; z++) {
                    int[] ways = new int[birds.size()];
                    for (int b = 0; b < birds.size(); b++) {
                        ways[b] = both(b) ? distanceOf(birds.get(b).place, new int[] {x, y, z}) : 0;
                    }
                    boolean in = false;
                    for (int clock = 0; clock <= 99; clock++) {
                        int rest = 0;
                        for (int b = 0; b < birds.size(); b++) {
                            if (b != without && both(b)) {
                                int left = ranges[b] - ways[b] - clock;
                                rest += left * left;
                            }
                        }
                        in |= rest <= limit;
                        if (best == null || rest < best[4]) {
                            best = new int[] {x, y, z, clock, rest, 0};
                        }
                    }
                    within += in ? 1 : 0;
                }
            }
        }
        best[5] = within;
        return best;
    }

    int fix(int what) {
        return what < 0 || what > 4 ? -1 : manyBoth() < 4 ? -2 : solve(-1, 0)[what];
    }

    int fixWithout(int bird, int what) {
        if (!isBird(bird) || what < 0 || what > 4) {
            return -1;
        }
        return !both(bird) || manyBoth() < 5 ? -2 : solve(bird, 0)[what];
    }

    int suspect() {
        if (manyBoth() < 5) {
            return -2;
        }
        int best = 0;
        for (int b = 1; b < 5; b++) {
            if (solve(b, 0)[4] < solve(best, 0)[4]) {
                best = b;
            }
        }
        return best;
    }

    int spread(int limit) {
        return limit < 0 || limit > 9999 ? -1 : manyBoth() < 4 ? -2 : solve(-1, limit)[5];
    }

    int distance(int one, int other) {
        if (!isBird(one) || !isBird(other)) {
            return -1;
        }
        if (birds.get(one).place == null || birds.get(other).place == null) {
            return -2;
        }
        return distanceOf(birds.get(one).place, birds.get(other).place);
    }

    int tried(int n, int what) {
        if (n < 1 || n > 40 || what < 0 || what > 2) {
            return -1;
        }
        List<Ch> trial = kept().channels;
        followAll(trial, n);
        int all = 0;
        for (Ch c : trial) {
            List<int[]> found = frames(c.log);
            all += what == 0 ? (c.lost == -2 ? 0 : 1) : what == 1 ? found.size() - 1
                : found.get(found.size() - 1)[0];
        }
        return all;
    }

    int undo() {
        if (past.isEmpty()) {
            return -1;
        }
        restore(past.removeFirst());
        return past.size();
    }

    int keep() {
        image = kept();
        return channels.size();
    }

    int back() {
        if (image == null) {
            return -1;
        }
        restore(image);
        past.clear();
        return channels.size();
    }

    int count(int what) {
        int heard = 0;
        int placed = 0;
        int sends = 0;
        int ranged = 0;
        int lost = 0;
        for (int b = 0; b < birds.size(); b++) {
            heard += birds.get(b).heard ? 1 : 0;
            placed += birds.get(b).place != null ? 1 : 0;
            sends += birds.get(b).sends.size();
            ranged += ranges[b] >= 0 ? 1 : 0;
        }
        for (Ch c : channels) {
            lost += c.lost != -2 ? 1 : 0;
        }
        int[] all = {birds.size(), heard, channels.size(), lost, sends, placed, ranged, noise, ratio, first,
            second, 0, past.size()};
        return what < 0 || what > 12 ? -1 : all[what];
    }

    int bird(int bird, int what) {
        B b = birds.get(bird);
        int[] all = {b.delay, b.heard ? b.start : -2, b.heard ? b.shift : -2, b.heard ? b.turn : -2,
            b.heard ? b.strength : -2, b.drift, b.fade, b.sends.size(), b.place == null ? -2 : b.place[0],
            b.place == null ? -2 : b.place[1], b.place == null ? -2 : b.place[2]};
        return all[what];
    }
}
