import java.util.NoSuchElementException;

public final class BirdCodes {
    public static final int NONE = -1;

    private static final int MOST_BIRDS = 5;
    private static final int MOST_SENDS = 10;
    private static final int MOST_CHANNELS = 4;
    private static final int MOST_UNDONE = 10;
    private static final int TAPE_BYTES = 700;
    private static final int CHIPS = 31;
    private static final int ALL_CHIPS = 0x7fffffff;
    /** Samples of a period; starts, too. */
    private static final int WIDTH = 62;
    private static final int PERIODS = 200;
    private static final int SHIFTS = 15;
    private static final int TURNS = 16;
    private static final int POINTS = 248;
    private static final int LOG_BITS = 64;
    private static final int FRAME_BITS = 16;
    private static final int MOST_RANGE = 400;
    private static final int MOST_CLOCK = 99;
    private static final int SIDE = 16;

    private static final int BIRD = 0;
    private static final int HEARD = 1;
    private static final int DRIFT = 2;
    private static final int FADE = 3;
    private static final int SEND = 4;
    private static final int PLACE = 5;
    private static final int HOME = 6;
    private static final int FIRST = 7;
    private static final int SECOND = 8;
    private static final int NOISE = 9;
    private static final int SEED = 10;
    private static final int RATIO = 11;

    /** The words of the language in the order of their numbers, packed as named() takes letters. */
    private static final int[] WORDS = {
        77139968,  // bird
        273729664, // heard
        153393792, // drift
        202511360, // fade
        643239936, // send
        549489824, // place
        284595200, // home
        211373696, // first
        642891204, // second
        485805216, // noise
        642945024, // seed
        605693408, // ratio
    };
    /** How many numbers stand in a line of each word. */
    private static final int[] NUMBERS = {1, 4, 1, 1, 2, 3, 4, 1, 1, 1, 1, 1};
    /** Four a word. */
    private static final int[] LEAST = {
        0, 0, 0, 0,
        0, 0, 0, 1,
        1, 0, 0, 0,
        1, 0, 0, 0,
        0, 0, 0, 0,
        0, 0, 0, 0,
        0, 0, 0, 0,
        1, 0, 0, 0,
        1, 0, 0, 0,
        0, 0, 0, 0,
        0, 0, 0, 0,
        10, 0, 0, 0,
    };
    private static final int[] MOST = {
        30, 0, 0, 0,
        61, 14, 15, 9,
        20, 0, 0, 0,
        199, 0, 0, 0,
        3, 63, 0, 0,
        15, 15, 15, 0,
        15, 15, 15, 20,
        31, 0, 0, 0,
        31, 0, 0, 0,
        99, 0, 0, 0,
        99999, 0, 0, 0,
        99, 0, 0, 0,
    };
    private static final int[] TABLE = {10, 9, 7, 4, 0, -4, -7, -9, -10, -9, -7, -4, 0, 4, 7, 9};

    private final int[] tape;
    private int tapeLength;
    private final Reader reader;
    /** What the latest fine text tells; the spare world takes the next text, and they change places. */
    private World told;
    private World spare;
    private final Ear ear;
    private final Hunter hunter;
    private final State now;
    private final State image;
    private boolean imaged;
    private final State trial;
    private final Past past;
    private final Frames frames;
    private final Solver solver;

    public BirdCodes() {
        tape = new int[TAPE_BYTES];
        reader = new Reader();
        told = new World();
        spare = new World();
        ear = new Ear();
        hunter = new Hunter();
        now = new State();
        image = new State();
        trial = new State();
        past = new Past();
        frames = new Frames();
        solver = new Solver();
    }

    // ---- the text ----

    public int feed(int a, int b, int c, int d, int e) {
        if (tapeLength + 20 > tape.length) {
            return NONE;
        }
        putFour(a);
        putFour(b);
        putFour(c);
        putFour(d);
        putFour(e);
        return tapeLength;
    }

    private void putFour(int four) {
        for (int low = 24; low >= 0; low -= 8) {
            if (tapeLength < tape.length) {
                tape[tapeLength] = (four >>> low) & 255;
                tapeLength++;
            }
        }
    }

    public int text(int n) {
        if (n < 0 || n > tapeLength) {
            return -2;
        }
        int lines = reader.readAll(tape, n, spare);
        tapeLength = 0;
        if (lines < 0) {
            return NONE;
        }
        World old = told;
        told = spare;
        spare = old;
        now.empty();
        imaged = false;
        past.forget();
        ear.forget();
        return lines;
    }

    public int fault(int what) {
        switch (what) {
            case 0: return reader.faultKind;
            case 1: return reader.faultPlace;
            default: return NONE;
        }
    }

    public int named(int letters) {
        return told.numberOf(letters);
    }

    public int bird(int bird, int what) throws IndexOutOfBoundsException, NoSuchElementException {
        if (!isBird(bird)) {
            throw new IndexOutOfBoundsException("no such bird");
        }
        if (what < 0 || what > 10) {
            throw new NoSuchElementException("no such what");
        }
        return told.birds[bird].told(what);
    }

    private boolean isBird(int bird) {
        return bird >= 0 && bird < told.birdCount;
    }

    private static boolean isPeriod(int period) {
        return period >= 0 && period < PERIODS;
    }

    /** Whether some periods from one on, at least one and at most so many, are all below 200. */
    private static boolean arePeriods(int period, int n, int most) {
        return isPeriod(period) && n >= 1 && n <= most && period + n <= PERIODS;
    }

    // ---- codes ----

    public int chip(int bird, int i) {
        if (!isBird(bird) || i < 0 || i >= CHIPS) {
            return 0;
        }
        return (told.birds[bird].code >>> i & 1) == 1 ? 1 : -1;
    }

    public int period(int mask) {
        if (mask < 1 || mask > 31) {
            return NONE;
        }
        int register = 31;
        // A register has 32 states: one that isn't back by then never is.
        for (int steps = 1; steps <= 32; steps++) {
            register = stepped(register, mask);
            if (register == 31) {
                return steps;
            }
        }
        return -2;
    }

    private static int stepped(int register, int mask) {
        int odd = Integer.bitCount(register & mask) & 1;
        return (register >>> 1) | (odd << 4);
    }

    /** What goes out of a register in 31 steps: the i-th in bit i. */
    private static int goesOut(int mask) {
        int register = 31;
        int out = 0;
        for (int i = 0; i < CHIPS; i++) {
            out |= (register & 1) << i;
            register = stepped(register, mask);
        }
        return out;
    }

    /** 31 bits, of which the i-th is then the (i and by)-th, around; by 0 .. 30. */
    private static int around(int bits, int by) {
        return ((bits >>> by) | (bits << (CHIPS - by))) & ALL_CHIPS;
    }

    private static int crossOf(int code, int other, int by) {
        return CHIPS - 2 * Integer.bitCount(code ^ around(other, by));
    }

    private static int worstOf(int code, int other, int from) {
        int worst = 0;
        for (int by = from; by < CHIPS; by++) {
            worst = Math.max(worst, Math.abs(crossOf(code, other, by)));
        }
        return worst;
    }

    public int cross(int one, int other, int by) {
        if (!isBird(one) || !isBird(other) || by < 0 || by >= CHIPS) {
            return -99;
        }
        return crossOf(told.birds[one].code, told.birds[other].code, by);
    }

    public int worst(int one, int other) {
        if (!isBird(one) || !isBird(other)) {
            return -2;
        }
        return worstOf(told.birds[one].code, told.birds[other].code, one == other ? 1 : 0);
    }

    public int quiet() {
        int best = 0;
        int least = CHIPS + 1;
        for (int delay = 0; delay < CHIPS; delay++) {
            int code = told.codeOf(delay);
            int worst = 0;
            for (int bird = 0; bird < told.birdCount; bird++) {
                worst = Math.max(worst, worstOf(code, told.birds[bird].code, 0));
            }
            if (worst < least) {
                least = worst;
                best = delay;
            }
        }
        return best;
    }

    // ---- samples and sums ----

    public int sample(int n, int what) {
        if (n < 0 || n >= WIDTH * PERIODS || what < 0 || what > 1) {
            return 0;
        }
        ear.hear(told, n / WIDTH);
        return what == 0 ? ear.re[n % WIDTH] : ear.im[n % WIDTH];
    }

    public int bit(int bird, int number) {
        if (!isBird(bird) || number < 0 || number > 199) {
            return NONE;
        }
        return told.birds[bird].bitAt(number);
    }

    public int sum(int bird, int period, int cell, int turn, int what) {
        if (!isBird(bird) || !isPeriod(period) || cell < 0 || cell >= SHIFTS * WIDTH
                || turn < 0 || turn >= TURNS || what < 0 || what > 2) {
            return 0;
        }
        ear.hear(told, period);
        ear.takeCode(told.birds[bird].code);
        ear.turnBack(period, cell / WIDTH, turn);
        ear.sumAt(cell % WIDTH);
        switch (what) {
            case 0: return ear.i;
            case 1: return ear.q;
            default: return ear.power();
        }
    }

    // ---- hunts ----

    private void huntOver(int bird, int period, int m) {
        hunter.begin();
        for (int k = 0; k < m; k++) {
            ear.hear(told, period + k);
            hunter.add(ear, told.birds[bird].code, period + k);
        }
        hunter.judge();
    }

    /** A hunt of one period with other noise, another seed, only one bird (or all: NONE): whether acquired. */
    private boolean isAcquiredAs(int bird, int period, int noise, int seed, int only) {
        ear.hearAs(told, period, noise, seed, only);
        hunter.begin();
        hunter.add(ear, told.birds[bird].code, period);
        hunter.judge();
        return hunter.isAcquired(told.ratio);
    }

    /** Whether the peak is where the bird truly is in a period. */
    private boolean isPeakRight(int bird, int period) {
        Bird its = told.birds[bird];
        return its.isHeard() && hunter.peak == WIDTH * its.shift + its.startIn(period) % WIDTH;
    }

    public int hunt(int bird, int period, int m, int what) {
        if (!isBird(bird) || !arePeriods(period, m, 4) || what < 0 || what > 3) {
            return NONE;
        }
        huntOver(bird, period, m);
        switch (what) {
            case 0: return hunter.peak;
            case 1: return hunter.peakPower;
            case 2: return hunter.rival;
            default: return hunter.isAcquired(told.ratio) ? 1 : 0;
        }
    }

    public int listen(int bird, int period) {
        if (!isBird(bird) || !isPeriod(period)) {
            return NONE;
        }
        if (!told.birds[bird].isHeard()) {
            return -2;
        }
        hunter.begin();
        for (int m = 1; m <= 4 && period + m <= PERIODS; m++) {
            int latest = period + m - 1;
            ear.hear(told, latest);
            hunter.add(ear, told.birds[bird].code, latest);
            hunter.judge();
            if (hunter.isAcquired(told.ratio) && isPeakRight(bird, period)) {
                return m;
            }
        }
        return -3;
    }

    public int clear(int bird, int period, int what) {
        if (!isBird(bird) || !isPeriod(period) || what < 0 || what > 2) {
            return NONE;
        }
        int noise = what == 1 ? told.noise : 0;
        int only = what == 0 ? NONE : bird;
        return isAcquiredAs(bird, period, noise, told.seed, only) ? 1 : 0;
    }

    public int limit(int bird, int period) {
        if (!isBird(bird) || !isPeriod(period)) {
            return NONE;
        }
        for (int noise = 0; noise <= 99; noise += 9) {
            if (!isAcquiredAs(bird, period, noise, told.seed, NONE)) {
                return noise;
            }
        }
        return -2;
    }

    public int chance(int bird, int period, int n, int what) {
        if (!isBird(bird) || !isPeriod(period) || n < 1 || n > 10 || what < 0 || what > 1) {
            return NONE;
        }
        int times = 0;
        int number = told.seed;
        for (int k = 0; k < n; k++) {
            number = nextNumber(number);
            boolean acquired = isAcquiredAs(bird, period, told.noise, number % 100000, NONE);
            if (acquired && (what == 0 || isPeakRight(bird, period))) {
                times++;
            }
        }
        return times;
    }

    public int clearest(int bird, int period, int n) {
        if (!isBird(bird) || !arePeriods(period, n, 8)) {
            return NONE;
        }
        int best = period;
        long bestPower = -1;
        long bestRival = 1;
        for (int k = 0; k < n; k++) {
            huntOver(bird, period + k, 1);
            long power = hunter.peakPower;
            long rival = hunter.rival == 0 ? 1 : hunter.rival;
            // Multiplied across, so that no quotient is cut.
            if (power * bestRival > bestPower * rival) {
                best = period + k;
                bestPower = power;
                bestRival = rival;
            }
        }
        return best;
    }

    public int tune(int bird, int period, int start) {
        if (!isBird(bird) || !isPeriod(period) || start < 0 || start >= WIDTH) {
            return NONE;
        }
        ear.hear(told, period);
        ear.takeCode(told.birds[bird].code);
        int best = 0;
        int greatest = -1;
        for (int shift = 0; shift < SHIFTS; shift++) {
            ear.turnBack(period, shift, 0);
            ear.sumAt(start);
            if (ear.power() > greatest) {
                greatest = ear.power();
                best = shift;
            }
        }
        return best;
    }

    // ---- channels ----

    private boolean isChannel(int channel) {
        return channel >= 0 && channel < now.channelCount;
    }

    public int lock(int bird, int period) {
        if (!isBird(bird) || period < 0 || period >= PERIODS - 1) {
            return NONE;
        }
        huntOver(bird, period, 1);
        if (!hunter.isAcquired(told.ratio)) {
            return -2;
        }
        if (now.channelCount >= MOST_CHANNELS) {
            return -3;
        }
        past.push(now);
        int channel = now.channelCount;
        now.channels[channel].begin(bird, hunter.peak, hunter.peakPower, period + 1);
        now.channelCount = channel + 1;
        return channel;
    }

    public int drop() {
        if (now.channelCount == 0) {
            return NONE;
        }
        past.push(now);
        now.channelCount--;
        return now.channelCount;
    }

    public int follow(int n) {
        if (n < 1 || n > 64) {
            return NONE;
        }
        past.push(now);
        return followAll(now, n);
    }

    private int followAll(State state, int n) {
        int followed = 0;
        // Period by period, since channels at the same period share what is heard.
        for (int k = 0; k < n; k++) {
            for (int c = 0; c < state.channelCount; c++) {
                if (state.channels[c].canFollow()) {
                    followOne(state.channels[c]);
                    followed++;
                }
            }
        }
        return followed;
    }

    private void followOne(Channel channel) {
        int start = channel.startOfPoint();
        ear.hear(told, channel.next);
        ear.takeCode(told.codeOfBird(channel.bird));
        ear.turnBack(channel.next, channel.shift, channel.turn);
        ear.sumAt(start == 0 ? WIDTH - 1 : start - 1);
        int early = ear.power();
        ear.sumAt(start == WIDTH - 1 ? 0 : start + 1);
        int late = ear.power();
        ear.sumAt(start);
        channel.movePoint(early, late);
        channel.moveTurn(ear.i, ear.q);
        channel.write(ear.i < 0 ? 1 : 0);
        channel.hold(ear.power());
    }

    public int channel(int channel, int what) {
        if (!isChannel(channel)) {
            return NONE;
        }
        return now.channels[channel].told(what);
    }

    public int logged(int channel, int i) {
        if (!isChannel(channel) || i < 0 || i >= now.channels[channel].logLength) {
            return NONE;
        }
        return now.channels[channel].logBit(i);
    }

    private void readFrames(Channel channel) {
        frames.read(channel.log, channel.logLength);
    }

    public int frame(int channel, int k, int what) {
        if (!isChannel(channel) || k < NONE) {
            return NONE;
        }
        if (k != NONE && (what < 0 || what > 3)) {
            return NONE;
        }
        readFrames(now.channels[channel]);
        if (k == NONE) {
            return frames.found;
        }
        return k < frames.found ? frames.told(k, what) : -2;
    }

    public int bad(int channel) {
        if (!isChannel(channel)) {
            return NONE;
        }
        readFrames(now.channels[channel]);
        return frames.wrong;
    }

    public int errors(int channel) {
        if (!isChannel(channel)) {
            return NONE;
        }
        Channel its = now.channels[channel];
        if (!isBird(its.bird) || !told.birds[its.bird].isHeard()) {
            return -2;
        }
        Bird bird = told.birds[its.bird];
        int wrong = 0;
        for (int i = 0; i < its.logLength; i++) {
            int period = its.next - its.logLength + i;
            int number = Math.floorDiv(WIDTH * period + 31 - bird.startIn(period), WIDTH);
            if (its.logBit(i) != bird.bitAt(number)) {
                wrong++;
            }
        }
        return Math.min(wrong, its.logLength - wrong);
    }

    public int latest(int channel, int kind) {
        if (!isChannel(channel) || kind < 0 || kind > 3) {
            return NONE;
        }
        readFrames(now.channels[channel]);
        for (int k = frames.found - 1; k >= 0; k--) {
            if (frames.told(k, 1) == kind) {
                return frames.told(k, 2);
            }
        }
        return -2;
    }

    public int off(int channel) {
        if (!isChannel(channel)) {
            return NONE;
        }
        Channel its = now.channels[channel];
        if (!isBird(its.bird) || !told.birds[its.bird].isHeard()) {
            return -2;
        }
        int period = Math.min(its.next, PERIODS - 1);
        return apart(its.startOfPoint(), told.birds[its.bird].startIn(period) % WIDTH);
    }

    /** How far two starts are from one another, around. */
    private static int apart(int start, int other) {
        int way = Math.abs(start - other);
        return Math.min(way, WIDTH - way);
    }

    public int tried(int n, int what) {
        if (n < 1 || n > 40 || what < 0 || what > 2) {
            return NONE;
        }
        trial.copyFrom(now);
        followAll(trial, n);
        if (what == 0) {
            return trial.howManyLost();
        }
        int all = 0;
        for (int c = 0; c < trial.channelCount; c++) {
            readFrames(trial.channels[c]);
            all += what == 1 ? frames.found : frames.wrong;
        }
        return all;
    }

    // ---- ranges and places ----

    public int range(int bird, int range) {
        if (!isBird(bird) || range < NONE || range > MOST_RANGE) {
            return -2;
        }
        past.push(now);
        int old = now.ranges[bird];
        now.ranges[bird] = range;
        return old;
    }

    public int measure(int k) {
        if (k < 0 || k > 20) {
            return NONE;
        }
        if (!told.homeTold) {
            return -2;
        }
        past.push(now);
        int measured = 0;
        for (int b = 0; b < told.birdCount; b++) {
            if (told.birds[b].placed) {
                now.ranges[b] = measuredRange(b, k);
                measured++;
            }
        }
        return measured;
    }

    private int measuredRange(int b, int k) {
        Bird bird = told.birds[b];
        int way = solver.way(bird.x - told.homeX, bird.y - told.homeY, bird.z - told.homeZ);
        int error = noiseOf(nextNumber(told.seed + b + 1000), k);
        return Math.max(0, Math.min(MOST_RANGE, way + 4 * told.homeClock + error));
    }

    public int fix(int what) {
        if (what < 0 || what > 4) {
            return NONE;
        }
        solver.gather(told, now, NONE);
        if (solver.used < 4) {
            return -2;
        }
        solver.solve(0);
        return solver.told(what);
    }

    public int fixWithout(int bird, int what) {
        if (!isBird(bird) || what < 0 || what > 4) {
            return NONE;
        }
        solver.gather(told, now, bird);
        if (!hasBoth(bird) || solver.used < 4) {
            return -2;
        }
        solver.solve(0);
        return solver.told(what);
    }

    private boolean hasBoth(int bird) {
        return told.birds[bird].placed && now.ranges[bird] != NONE;
    }

    public int suspect() {
        solver.gather(told, now, NONE);
        if (solver.used < 5) {
            return -2;
        }
        int best = NONE;
        int least = 0;
        for (int bird = 0; bird < told.birdCount; bird++) {
            if (hasBoth(bird)) {
                solver.gather(told, now, bird);
                solver.solve(0);
                if (best == NONE || solver.rest < least) {
                    best = bird;
                    least = solver.rest;
                }
            }
        }
        return best;
    }

    public int spread(int limit) {
        if (limit < 0 || limit > 9999) {
            return NONE;
        }
        solver.gather(told, now, NONE);
        if (solver.used < 4) {
            return -2;
        }
        solver.solve(limit);
        return solver.within;
    }

    public int distance(int one, int other) {
        if (!isBird(one) || !isBird(other)) {
            return NONE;
        }
        Bird a = told.birds[one];
        Bird b = told.birds[other];
        if (!a.placed || !b.placed) {
            return -2;
        }
        return solver.way(a.x - b.x, a.y - b.y, a.z - b.z);
    }

    // ---- what was, and how many ----

    public int undo() {
        if (past.size == 0) {
            return NONE;
        }
        past.pop(now);
        return past.size;
    }

    public int keep() {
        image.copyFrom(now);
        imaged = true;
        return now.channelCount;
    }

    public int back() {
        if (!imaged) {
            return NONE;
        }
        now.copyFrom(image);
        past.forget();
        return now.channelCount;
    }

    public int count(int what) {
        switch (what) {
            case 0: return told.birdCount;
            case 1: return told.howManyHeard();
            case 2: return now.channelCount;
            case 3: return now.howManyLost();
            case 4: return told.sendCount;
            case 5: return told.howManyPlaced();
            case 6: return now.howManyRanges();
            case 7: return told.noise;
            case 8: return told.ratio;
            case 9: return told.first;
            case 10: return told.second;
            case 11: return tapeLength;
            case 12: return past.size;
            default: return NONE;
        }
    }

    // ---- numbers by chance ----

    private static int nextNumber(int number) {
        return (number * 1103515245 + 12345) & 0x7fffffff;
    }

    /** From less noise to noise, by a number of 31 bits; noise is 0 at least. */
    private static int noiseOf(int number, int noise) {
        int ways = 2 * noise + 1;
        return ways > 0 ? number / 65536 % ways - noise : 0;
    }

    /** The four bits of parity behind eight bits of kind and value. */
    private static int parityOf(int eight) {
        int parity = 0;
        for (int j = 0; j < 4; j++) {
            int odd = 0;
            for (int number = 1; number <= 8; number++) {
                if ((number >>> j & 1) == 1) {
                    odd ^= eight >>> (8 - number) & 1;
                }
            }
            parity = parity << 1 | odd;
        }
        return parity;
    }

    private static int subframe(int kind, int value) {
        int eight = kind << 6 | value;
        return 11 << 12 | eight << 4 | parityOf(eight);
    }

    /** What the lines tell of one bird. */
    private static final class Bird {
        int name;
        int delay;
        int code;
        int start;
        int shift;
        int turn;
        /** 0: it is not heard. */
        int strength;
        /** 0: not told, as with fade. */
        int drift;
        int fade;
        boolean placed;
        int x;
        int y;
        int z;
        final int[] subframes = new int[MOST_SENDS];
        int sends;

        void begin(int itsName, int itsDelay) {
            name = itsName;
            delay = itsDelay;
            strength = 0;
            drift = 0;
            fade = 0;
            placed = false;
            sends = 0;
        }

        boolean isHeard() {
            return strength > 0;
        }

        boolean isHeardIn(int period) {
            return strength > 0 && (fade == 0 || period < fade);
        }

        int startIn(int period) {
            return drift > 0 ? start + period / drift : start;
        }

        int bitAt(int number) {
            if (number < 0 || sends <= 0) {
                return 0;
            }
            int subframe = subframes[number / FRAME_BITS % sends];
            return subframe >>> (FRAME_BITS - 1 - number % FRAME_BITS) & 1;
        }

        void addSubframe(int subframe) {
            if (sends < subframes.length) {
                subframes[sends] = subframe;
                sends++;
            }
        }

        int told(int what) {
            switch (what) {
                case 0: return delay;
                case 1: return isHeard() ? start : -2;
                case 2: return isHeard() ? shift : -2;
                case 3: return isHeard() ? turn : -2;
                case 4: return isHeard() ? strength : -2;
                case 5: return drift > 0 ? drift : -2;
                case 6: return fade > 0 ? fade : -2;
                case 7: return sends;
                case 8: return placed ? x : -2;
                case 9: return placed ? y : -2;
                default: return placed ? z : -2;
            }
        }
    }

    /** What a whole text tells. */
    private static final class World {
        final Bird[] birds = new Bird[MOST_BIRDS];
        int birdCount;
        int sendCount;
        int first;
        int second;
        int firstOut;
        int secondOut;
        int noise;
        int seed;
        int ratio;
        boolean homeTold;
        int homeX;
        int homeY;
        int homeZ;
        int homeClock;
        /** Bit k: the word k, of which there is one line at most, has its line. */
        int onceTold;

        World() {
            for (int b = 0; b < birds.length; b++) {
                birds[b] = new Bird();
            }
            begin();
            settle();
        }

        void begin() {
            birdCount = 0;
            sendCount = 0;
            first = 5;
            second = 29;
            noise = 0;
            seed = 0;
            ratio = 15;
            homeTold = false;
            onceTold = 0;
        }

        /** The codes, once the masks can't change any more. */
        void settle() {
            firstOut = goesOut(first);
            secondOut = goesOut(second);
            for (int b = 0; b < birdCount; b++) {
                birds[b].code = codeOf(birds[b].delay);
            }
        }

        /** Bit i is 1 where chip i is 1. */
        int codeOf(int delay) {
            return ~(firstOut ^ around(secondOut, delay)) & ALL_CHIPS;
        }

        int codeOfBird(int bird) {
            return bird >= 0 && bird < birdCount ? birds[bird].code : 0;
        }

        int numberOf(int name) {
            for (int b = 0; b < birdCount; b++) {
                if (birds[b].name == name) {
                    return b;
                }
            }
            return NONE;
        }

        void addBird(int name, int delay) {
            if (birdCount < birds.length) {
                birds[birdCount].begin(name, delay);
                birdCount++;
            }
        }

        int howManyHeard() {
            int many = 0;
            for (int b = 0; b < birdCount; b++) {
                many += birds[b].isHeard() ? 1 : 0;
            }
            return many;
        }

        int howManyPlaced() {
            int many = 0;
            for (int b = 0; b < birdCount; b++) {
                many += birds[b].placed ? 1 : 0;
            }
            return many;
        }
    }

    /** Reads a text into a world, up to its first fault. */
    private static final class Reader {
        private static final int END = 0;
        private static final int WORD = 1;
        private static final int NUMBER = 2;
        private static final int STOP = 3;
        private static final int WRONG = 4;
        /** Beyond every number of the language. */
        private static final int TOO_GREAT = 1000000;

        int faultKind;
        int faultPlace = NONE;
        private int[] bytes = new int[0];
        private int length;
        private int at;
        private int token;
        private int tokenPlace;
        private int tokenValue;
        private World world;
        private int name;
        private Bird bird;
        private final int[] numbers = new int[4];

        /** How many lines, or NONE with a fault. */
        int readAll(int[] all, int n, World into) {
            bytes = all;
            length = Math.min(n, all.length);
            at = 0;
            world = into;
            world.begin();
            faultKind = 0;
            faultPlace = NONE;
            int lines = 0;
            advance();
            // A line has a byte at least.
            for (int k = 0; k < length && token != END; k++) {
                if (!readLine()) {
                    return NONE;
                }
                lines++;
            }
            world.settle();
            return lines;
        }

        private boolean refuse(int kind) {
            faultKind = kind;
            faultPlace = tokenPlace;
            return false;
        }

        private boolean readLine() {
            int word = token == WORD ? wordNumber(tokenValue) : NONE;
            if (word == NONE) {
                return refuse(1);
            }
            if (isOneTooMany(word)) {
                return refuse(2);
            }
            if (isOnce(word) && (world.onceTold >>> word & 1) == 1) {
                return refuse(3);
            }
            advance();
            if (!isOnce(word) && !readName(word)) {
                return false;
            }
            if (!readNumbers(word)) {
                return false;
            }
            if (token != STOP) {
                return refuse(1);
            }
            take(word);
            advance();
            return true;
        }

        private static boolean isOnce(int word) {
            return word >= HOME;
        }

        private boolean isOneTooMany(int word) {
            return word == BIRD && world.birdCount >= MOST_BIRDS
                || word == SEND && world.sendCount >= MOST_SENDS;
        }

        private boolean readName(int word) {
            if (token != WORD || wordNumber(tokenValue) != NONE) {
                return refuse(1);
            }
            int number = world.numberOf(tokenValue);
            if (word == BIRD) {
                if (number != NONE) {
                    return refuse(3);
                }
            } else {
                if (number == NONE) {
                    return refuse(4);
                }
                bird = world.birds[number];
                if (isToldOfBird(word)) {
                    return refuse(3);
                }
            }
            name = tokenValue;
            advance();
            return true;
        }

        private boolean isToldOfBird(int word) {
            if (bird == null) {
                return false;
            }
            switch (word) {
                case HEARD: return bird.isHeard();
                case DRIFT: return bird.drift > 0;
                case FADE: return bird.fade > 0;
                case PLACE: return bird.placed;
                default: return false;
            }
        }

        private boolean readNumbers(int word) {
            for (int k = 0; k < NUMBERS[word]; k++) {
                if (token != NUMBER) {
                    return refuse(1);
                }
                if (tokenValue < LEAST[4 * word + k] || tokenValue > MOST[4 * word + k]) {
                    return refuse(2);
                }
                numbers[k] = tokenValue;
                advance();
            }
            return true;
        }

        private void take(int word) {
            if (isOnce(word)) {
                world.onceTold |= 1 << word;
            }
            switch (word) {
                case BIRD: world.addBird(name, numbers[0]); break;
                case HOME: takeHome(); break;
                case FIRST: world.first = numbers[0]; break;
                case SECOND: world.second = numbers[0]; break;
                case NOISE: world.noise = numbers[0]; break;
                case SEED: world.seed = numbers[0]; break;
                case RATIO: world.ratio = numbers[0]; break;
                default: takeOfBird(word); break;
            }
        }

        private void takeHome() {
            world.homeTold = true;
            world.homeX = numbers[0];
            world.homeY = numbers[1];
            world.homeZ = numbers[2];
            world.homeClock = numbers[3];
        }

        private void takeOfBird(int word) {
            if (bird == null) {
                return;
            }
            switch (word) {
                case HEARD:
                    bird.start = numbers[0];
                    bird.shift = numbers[1];
                    bird.turn = numbers[2];
                    bird.strength = numbers[3];
                    break;
                case DRIFT:
                    bird.drift = numbers[0];
                    break;
                case FADE:
                    bird.fade = numbers[0];
                    break;
                case SEND:
                    bird.addSubframe(subframe(numbers[0], numbers[1]));
                    world.sendCount++;
                    break;
                default:
                    bird.placed = true;
                    bird.x = numbers[0];
                    bird.y = numbers[1];
                    bird.z = numbers[2];
                    break;
            }
        }

        private static int wordNumber(int letters) {
            for (int k = 0; k < WORDS.length; k++) {
                if (WORDS[k] == letters) {
                    return k;
                }
            }
            return NONE;
        }

        /** The byte at which the reader is, NONE behind the last one. */
        private int here() {
            return at >= 0 && at < length && at < bytes.length ? bytes[at] : NONE;
        }

        private void advance() {
            while (at < length && (here() == 32 || here() == 10)) {
                at++;
            }
            tokenPlace = at;
            int sign = here();
            if (sign == NONE) {
                token = END;
            } else if (isLetter(sign)) {
                advanceWord();
            } else if (isDigit(sign)) {
                advanceNumber();
            } else {
                token = sign == ';' ? STOP : WRONG;
                at++;
            }
        }

        private static boolean isLetter(int sign) {
            return sign >= 'a' && sign <= 'z';
        }

        private static boolean isDigit(int sign) {
            return sign >= '0' && sign <= '9';
        }

        private void advanceWord() {
            int letters = 0;
            tokenValue = 0;
            while (at < length && isLetter(here())) {
                if (letters < 6) {
                    tokenValue |= (here() - 'a' + 1) << (25 - 5 * letters);
                }
                letters++;
                at++;
            }
            // No word of the language has more than six letters.
            token = letters <= 6 ? WORD : WRONG;
        }

        private void advanceNumber() {
            tokenValue = 0;
            while (at < length && isDigit(here())) {
                tokenValue = Math.min(TOO_GREAT, 10 * tokenValue + here() - '0');
                at++;
            }
            token = NUMBER;
        }
    }

    /** Hears the samples of a period, and sums them by a code. */
    private static final class Ear {
        final int[] re = new int[WIDTH];
        final int[] im = new int[WIDTH];
        int i;
        int q;
        /** The period whose samples, all as told, are in re and im; or NONE. */
        private int held = NONE;
        /** Twice the numbers of the chips that are -1. */
        private final int[] minus = new int[CHIPS];
        private int minusCount;
        /** Samples turned back, I's part in the upper half of a number and Q's in the lower one. */
        private final long[] turned = new long[WIDTH];
        /** Each with the next one, as a chip has two samples; twice over, so that no start goes around. */
        private final long[] pairs = new long[2 * WIDTH];
        private long total;

        void forget() {
            held = NONE;
        }

        void hear(World world, int period) {
            if (held != period) {
                hearAs(world, period, world.noise, world.seed, NONE);
                held = period;
            }
        }

        void hearAs(World world, int period, int noise, int seed, int only) {
            held = NONE;
            for (int k = 0; k < WIDTH; k++) {
                re[k] = 0;
                im[k] = 0;
            }
            for (int b = 0; b < world.birdCount; b++) {
                if ((only == NONE || only == b) && world.birds[b].isHeardIn(period)) {
                    addBird(world.birds[b], period);
                }
            }
            if (noise > 0) {
                addNoise(period, noise, seed);
            }
        }

        private void addBird(Bird bird, int period) {
            int n = WIDTH * period;
            int number = Math.floorDiv(n - bird.startIn(period), WIDTH);
            int place = n - bird.startIn(period) - WIDTH * number;
            int bit = bird.bitAt(number);
            for (int k = 0; k < WIDTH; k++) {
                int angle = angleOf(n + k, bird.shift, bird.turn);
                int strength = (bird.code >>> (place / 2) & 1) == bit ? -bird.strength : bird.strength;
                re[k] += strength * TABLE[angle];
                im[k] += strength * TABLE[(angle + 12) & 15];
                place++;
                if (place == WIDTH) {
                    place = 0;
                    number++;
                    bit = bird.bitAt(number);
                }
            }
        }

        private void addNoise(int period, int noise, int seed) {
            for (int k = 0; k < WIDTH; k++) {
                int number = nextNumber(seed + WIDTH * period + k);
                re[k] += noiseOf(number, noise);
                im[k] += noiseOf(nextNumber(number), noise);
            }
        }

        private static int angleOf(int n, int shift, int turn) {
            // Bits shifted out make an eighth that goes downwards, below 0 too.
            return ((shift - 7) * n >> 3) + turn & 15;
        }

        void takeCode(int code) {
            minusCount = 0;
            for (int k = 0; k < CHIPS; k++) {
                if ((code >>> k & 1) == 0) {
                    minus[minusCount] = 2 * k;
                    minusCount++;
                }
            }
        }

        /** The samples heard, of that period, turned back by a shift and a turn. */
        void turnBack(int period, int shift, int turn) {
            int n = WIDTH * period;
            total = 0;
            for (int k = 0; k < WIDTH; k++) {
                int angle = angleOf(n + k, shift, turn);
                int cos = TABLE[angle];
                int sin = TABLE[(angle + 12) & 15];
                long both = (long) (re[k] * cos + im[k] * sin) << 32;
                both += im[k] * cos - re[k] * sin;
                turned[k] = both;
                total += both;
            }
            for (int k = 0; k < WIDTH; k++) {
                long pair = turned[k] + turned[k == WIDTH - 1 ? 0 : k + 1];
                pairs[k] = pair;
                pairs[k + WIDTH] = pair;
            }
        }

        /** I and Q of the samples turned back, by the code from a start 0 .. 61 on. */
        void sumAt(int start) {
            if (start < 0 || start >= WIDTH) {
                i = 0;
                q = 0;
                return;
            }
            long less = 0;
            for (int k = 0; k < minusCount; k++) {
                less += pairs[start + minus[k]];
            }
            // All samples together are the same for each start: those of -1 are taken off twice.
            long both = total - 2 * less;
            int lower = (int) both;
            i = (int) ((both - lower) >> 32) >> 6;
            q = lower >> 6;
        }

        int power() {
            return i * i + q * q;
        }
    }

    /** Holds the powers of all cells, and tells their peak and its rival. */
    private static final class Hunter {
        private final int[] cells = new int[SHIFTS * WIDTH];
        int peak;
        int peakPower;
        int rival;

        void begin() {
            for (int cell = 0; cell < cells.length; cell++) {
                cells[cell] = 0;
            }
        }

        /** The powers of a period that the ear has heard come to those that are there. */
        void add(Ear ear, int code, int period) {
            ear.takeCode(code);
            for (int shift = 0; shift < SHIFTS; shift++) {
                ear.turnBack(period, shift, 0);
                for (int start = 0; start < WIDTH; start++) {
                    ear.sumAt(start);
                    cells[WIDTH * shift + start] += ear.power();
                }
            }
        }

        void judge() {
            peak = 0;
            for (int cell = 1; cell < cells.length; cell++) {
                if (cells[cell] > cells[peak]) {
                    peak = cell;
                }
            }
            peakPower = cells[peak];
            rival = 0;
            for (int start = 0; start < WIDTH; start++) {
                if (apart(start, peak % WIDTH) >= 3) {
                    judgeRival(start);
                }
            }
        }

        private void judgeRival(int start) {
            for (int shift = 0; shift < SHIFTS; shift++) {
                rival = Math.max(rival, cells[WIDTH * shift + start]);
            }
        }

        boolean isAcquired(int ratio) {
            return peakPower > 0 && 10L * peakPower >= (long) ratio * rival;
        }
    }

    /** What follows one bird. */
    private static final class Channel {
        int bird;
        int point;
        int shift;
        int turn;
        int base;
        int next;
        int weak;
        /** The period in which it was lost, or -2. */
        int lost;
        /** The latest bits, the last one lowest. */
        long log;
        int logLength;

        void begin(int itsBird, int cell, int power, int nextPeriod) {
            bird = itsBird;
            point = cell % WIDTH * 4;
            shift = cell / WIDTH;
            turn = 0;
            base = power;
            next = nextPeriod;
            weak = 0;
            lost = -2;
            log = 0;
            logLength = 0;
        }

        void copyFrom(Channel other) {
            bird = other.bird;
            point = other.point;
            shift = other.shift;
            turn = other.turn;
            base = other.base;
            next = other.next;
            weak = other.weak;
            lost = other.lost;
            log = other.log;
            logLength = other.logLength;
        }

        boolean isLost() {
            return lost != -2;
        }

        boolean canFollow() {
            return !isLost() && next < PERIODS;
        }

        int startOfPoint() {
            return point / 4;
        }

        void movePoint(int early, int late) {
            if (early > late) {
                point = point == 0 ? POINTS - 1 : point - 1;
            } else if (early < late) {
                point = point == POINTS - 1 ? 0 : point + 1;
            }
        }

        void moveTurn(int i, int q) {
            int aside = i < 0 ? -q : q;
            if (2 * Math.abs(aside) > Math.abs(i)) {
                turn = (aside > 0 ? turn + 1 : turn + TURNS - 1) % TURNS;
            }
        }

        void write(int bit) {
            log = log << 1 | bit;
            logLength = Math.min(LOG_BITS, logLength + 1);
        }

        /** A period of that power is through. */
        void hold(int power) {
            weak = 4 * power < base ? weak + 1 : 0;
            if (weak == 3) {
                lost = next;
            }
            next++;
        }

        int logBit(int i) {
            return (int) (log >>> (logLength - 1 - i)) & 1;
        }

        int told(int what) {
            switch (what) {
                case 0: return bird;
                case 1: return point;
                case 2: return shift;
                case 3: return turn;
                case 4: return base;
                case 5: return next;
                case 6: return weak;
                case 7: return lost;
                case 8: return logLength;
                default: return NONE;
            }
        }
    }

    /** Channels and ranges: all that calls change and that can be undone or kept. */
    private static final class State {
        final Channel[] channels = new Channel[MOST_CHANNELS];
        int channelCount;
        final int[] ranges = new int[MOST_BIRDS];

        State() {
            for (int c = 0; c < channels.length; c++) {
                channels[c] = new Channel();
            }
            empty();
        }

        void empty() {
            channelCount = 0;
            for (int b = 0; b < ranges.length; b++) {
                ranges[b] = NONE;
            }
        }

        void copyFrom(State other) {
            channelCount = other.channelCount;
            for (int c = 0; c < channelCount; c++) {
                channels[c].copyFrom(other.channels[c]);
            }
            for (int b = 0; b < ranges.length; b++) {
                ranges[b] = other.ranges[b];
            }
        }

        int howManyLost() {
            int many = 0;
            for (int c = 0; c < channelCount; c++) {
                many += channels[c].isLost() ? 1 : 0;
            }
            return many;
        }

        int howManyRanges() {
            int many = 0;
            for (int b = 0; b < ranges.length; b++) {
                many += ranges[b] != NONE ? 1 : 0;
            }
            return many;
        }
    }

    /** The latest states, around in a ring. */
    private static final class Past {
        private final State[] states = new State[MOST_UNDONE];
        private int newest;
        int size;

        Past() {
            for (int k = 0; k < states.length; k++) {
                states[k] = new State();
            }
        }

        void forget() {
            size = 0;
        }

        void push(State state) {
            newest = (newest + 1) % MOST_UNDONE;
            states[newest].copyFrom(state);
            size = Math.min(MOST_UNDONE, size + 1);
        }

        void pop(State into) {
            if (size > 0) {
                into.copyFrom(states[newest]);
                newest = (newest + MOST_UNDONE - 1) % MOST_UNDONE;
                size--;
            }
        }
    }

    /** The frames of one log. */
    private static final class Frames {
        /** A log has no more. */
        private static final int MOST_FRAMES = LOG_BITS / FRAME_BITS;

        int found;
        int wrong;
        private final int[] places = new int[MOST_FRAMES];
        private final int[] words = new int[MOST_FRAMES];
        private final int[] turnedOver = new int[MOST_FRAMES];

        void read(long log, int length) {
            found = 0;
            wrong = 0;
            int place = 0;
            while (place + FRAME_BITS <= length) {
                int word = (int) (log >>> (length - FRAME_BITS - place)) & 0xffff;
                place += readWord(place, word) ? FRAME_BITS : 1;
            }
        }

        /** Whether there is a frame. */
        private boolean readWord(int place, int word) {
            int four = word >>> 12;
            if (four != 11 && four != 4) {
                return false;
            }
            int over = four == 4 ? 1 : 0;
            int upright = over == 1 ? word ^ 0xffff : word;
            if ((upright & 15) != parityOf(upright >>> 4 & 255)) {
                wrong++;
                return false;
            }
            if (found < MOST_FRAMES) {
                places[found] = place;
                words[found] = upright;
                turnedOver[found] = over;
                found++;
            }
            return true;
        }

        int told(int k, int what) {
            if (k < 0 || k >= found) {
                return NONE;
            }
            switch (what) {
                case 0: return places[k];
                case 1: return words[k] >>> 10 & 3;
                case 2: return words[k] >>> 4 & 63;
                default: return turnedOver[k];
            }
        }
    }

    /** A place and a clock by least squares. */
    private static final class Solver {
        int used;
        int rest;
        /** Points whose least rest is not above the limit. */
        int within;
        private int x;
        private int y;
        private int z;
        private int clock;
        private final Bird[] birds = new Bird[MOST_BIRDS];
        private final int[] ranges = new int[MOST_BIRDS];
        /** Distances by the three differences' squares together. */
        private final int[] ways = new int[3 * (SIDE - 1) * (SIDE - 1) + 1];

        Solver() {
            int root = 0;
            for (int square = 0; square < ways.length; square++) {
                while (root < 4 * ways.length && (root + 1) * (root + 1) <= 16 * square) {
                    root++;
                }
                ways[square] = root;
            }
        }

        int way(int dx, int dy, int dz) {
            int square = dx * dx + dy * dy + dz * dz;
            return square >= 0 && square < ways.length ? ways[square] : 0;
        }

        /** All birds that have both place and range, but for one (or none: NONE). */
        void gather(World world, State state, int without) {
            used = 0;
            for (int b = 0; b < world.birdCount; b++) {
                if (b != without && world.birds[b].placed && state.ranges[b] != NONE) {
                    birds[used] = world.birds[b];
                    ranges[used] = state.ranges[b];
                    used++;
                }
            }
        }

        void solve(int limit) {
            rest = NONE;
            within = 0;
            for (int px = 0; px < SIDE; px++) {
                for (int py = 0; py < SIDE; py++) {
                    for (int pz = 0; pz < SIDE; pz++) {
                        tryPoint(px, py, pz, limit);
                    }
                }
            }
        }

        private void tryPoint(int px, int py, int pz, int limit) {
            int once = 0;
            int squares = 0;
            for (int k = 0; k < used; k++) {
                Bird bird = birds[k];
                int left = ranges[k] - way(bird.x - px, bird.y - py, bird.z - pz);
                once += left;
                squares += left * left;
            }
            int best = bestClock(once);
            int together = squares - 2 * best * once + used * best * best;
            if (together <= limit) {
                within++;
            }
            if (rest == NONE || together < rest) {
                rest = together;
                x = px;
                y = py;
                z = pz;
                clock = best;
            }
        }

        /** The squares are a parabola of the clock: least next to the mean, the lower one of two alike. */
        private int bestClock(int once) {
            if (used <= 0) {
                return 0;
            }
            int nearest = -Math.floorDiv(used - 2 * once, 2 * used);
            return Math.max(0, Math.min(MOST_CLOCK, nearest));
        }

        int told(int what) {
            switch (what) {
                case 0: return x;
                case 1: return y;
                case 2: return z;
                case 3: return clock;
                default: return rest;
            }
        }
    }
}
