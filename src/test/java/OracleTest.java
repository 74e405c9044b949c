import java.util.Random;

/** All promises: random texts and random runs of calls, held against the document done word for word. */
public final class OracleTest {
    private static final int WORLDS = 260;
    private static final int CALLS = 70;

    private final Random random;
    private final Oracle oracle = new Oracle();
    private final Run x;
    private final StringBuilder run;

    private OracleTest(int number) {
        random = new Random(number);
        run = new StringBuilder("world " + number);
        x = new Run();
        if (number % 5 == 0) {
            x.tell("bird old 30;heard old 1 2 3 4;drift old 1;fade old 1;send old 1 1;place old 1 1 1;"
                + "home 1 1 1 1;noise 9;seed 9;ratio 99;first 1;second 1;");
            x.range(0, 3);
            x.keep();
        }
        String text = world();
        Check.same(run + " text", x.tell(text), text.chars().filter(c -> c == ';').count());
        if (x.fault(0) != 0) {
            System.out.println(text);
        }
    }

    public static void main(String[] args) {
        for (int k = 0; k < WORLDS; k++) {
            OracleTest test = new OracleTest(k);
            test.plainCalls();
            for (int c = 0; c < CALLS; c++) {
                test.oneCall();
            }
            test.allOfChannels();
        }
        Check.end("OracleTest");
    }

    private int upTo(int most) {
        return random.nextInt(most + 1);
    }

    private boolean oneOf(int many) {
        return random.nextInt(many) == 0;
    }

    private String world() {
        StringBuilder text = new StringBuilder();
        int many = oneOf(12) ? 0 : 1 + upTo(4);
        for (int k = 0; k < many; k++) {
            Oracle.B b = new Oracle.B();
            b.name = "" + (char) ('a' + k) + (oneOf(2) ? "xyz" : "");
            b.delay = upTo(30);
            text.append("bird " + b.name + " " + b.delay + ";");
            tellOfBird(b, text);
            oracle.birds.add(b);
        }
        for (int sends = oneOf(3) ? 0 : upTo(10); sends > 0 && many > 0; sends--) {
            Oracle.B b = oracle.birds.get(random.nextInt(many));
            int[] send = {upTo(3), upTo(63)};
            b.sends.add(send);
            text.append("send " + b.name + " " + send[0] + " " + send[1] + ";\n");
        }
        if (oneOf(2)) {
            oracle.noise = oneOf(2) ? upTo(99) : upTo(20);
            text.append("noise " + oracle.noise + ";");
        }
        if (oneOf(2)) {
            oracle.seed = upTo(99999);
            text.append("seed " + oracle.seed + ";");
        }
        if (oneOf(2)) {
            oracle.ratio = 10 + upTo(oneOf(2) ? 89 : 8);
            text.append("ratio " + oracle.ratio + ";");
        }
        if (oneOf(5)) {
            oracle.first = 1 + upTo(30);
            text.append("first " + oracle.first + " ; ");
        }
        if (oneOf(5)) {
            oracle.second = 1 + upTo(30);
            text.append("second " + oracle.second + ";");
        }
        if (!oneOf(4)) {
            oracle.home = new int[] {upTo(15), upTo(15), upTo(15), upTo(20)};
            text.append("home " + oracle.home[0] + " " + oracle.home[1] + " " + oracle.home[2] + " "
                + oracle.home[3] + ";");
        }
        return text.toString();
    }

    private void tellOfBird(Oracle.B b, StringBuilder text) {
        if (!oneOf(5)) {
            b.heard = true;
            b.start = upTo(61);
            b.shift = upTo(14);
            b.turn = upTo(15);
            b.strength = 1 + upTo(8);
            text.append("heard " + b.name + " " + b.start + " " + b.shift + " " + b.turn + " " + b.strength + ";");
        }
        if (oneOf(2)) {
            b.drift = 1 + upTo(19);
            text.append("drift " + b.name + " " + b.drift + ";");
        }
        if (oneOf(4)) {
            b.fade = 1 + upTo(198);
            text.append("fade " + b.name + " " + b.fade + ";");
        }
        if (!oneOf(6)) {
            b.place = new int[] {upTo(15), upTo(15), upTo(15)};
            text.append("place " + b.name + " " + b.place[0] + " " + b.place[1] + " " + b.place[2] + ";");
        }
    }

    private int aBird() {
        return oneOf(15) ? upTo(6) - 1 : random.nextInt(Math.max(1, oracle.birds.size()));
    }

    private int aPeriod() {
        return oneOf(15) ? 195 + upTo(7) : oneOf(30) ? -1 : upTo(199);
    }

    private int aChannel() {
        return oneOf(10) ? upTo(5) - 1 : random.nextInt(Math.max(1, oracle.channels.size()));
    }

    private void same(String call, long got, long due) {
        Check.same(run + " " + call, got, due);
    }

    private void plainCalls() {
        for (int b = 0; b < oracle.birds.size(); b++) {
            same("named", x.named(Check.packed(oracle.birds.get(b).name)), b);
            for (int what = 0; what <= 10; what++) {
                same("bird " + b + " " + what, x.bird(b, what), oracle.bird(b, what));
            }
            for (int i = -1; i <= 31; i++) {
                same("chip " + b + " " + i, x.chip(b, i), oracle.chip(b, i));
            }
            for (int other = 0; other < oracle.birds.size(); other++) {
                same("worst " + b + " " + other, x.worst(b, other), oracle.worst(b, other));
                int by = upTo(30);
                same("cross " + b + " " + other + " " + by, x.cross(b, other, by), oracle.cross(b, other, by));
                same("distance " + b + " " + other, x.distance(b, other), oracle.distance(b, other));
            }
        }
        same("quiet", x.quiet(), oracle.quiet());
        counts();
    }

    private void counts() {
        for (int what = -1; what <= 13; what++) {
            same("count " + what, x.count(what), oracle.count(what));
        }
    }

    private void allOfChannels() {
        counts();
        for (int c = 0; c <= oracle.channels.size(); c++) {
            for (int what = -1; what <= 9; what++) {
                same("channel " + c + " " + what, x.channel(c, what), oracle.channel(c, what));
            }
            for (int i = -1; i <= 64; i++) {
                same("logged " + c + " " + i, x.logged(c, i), oracle.logged(c, i));
            }
            for (int k = -2; k <= 4; k++) {
                for (int what = -1; what <= 4; what++) {
                    same("frame " + c + " " + k + " " + what, x.frame(c, k, what), oracle.frame(c, k, what));
                }
            }
            for (int kind = -1; kind <= 4; kind++) {
                same("latest " + c + " " + kind, x.latest(c, kind), oracle.latest(c, kind));
            }
            same("bad " + c, x.bad(c), oracle.bad(c));
            same("errors " + c, x.errors(c), oracle.errors(c));
            same("off " + c, x.off(c), oracle.off(c));
        }
    }

    private void oneCall() {
        int kind = random.nextInt(100);
        if (kind < 45) {
            aChange(kind);
        } else if (kind < 70) {
            aHunt(kind);
        } else if (kind < 85) {
            aSample(kind);
        } else {
            aPlace(kind);
        }
    }

    private void aChange(int kind) {
        if (kind < 14) {
            int b = aBird();
            int p = oneOf(2) ? upTo(20) : aPeriod();
            run.append(" lock " + b + " " + p);
            same("", x.lock(b, p), oracle.lock(b, p));
        } else if (kind < 17) {
            run.append(" drop");
            same("", x.drop(), oracle.drop());
        } else if (kind < 25) {
            int n = oneOf(10) ? 63 + upTo(4) : oneOf(10) ? -upTo(1) : oneOf(2) ? upTo(64) : 1 + upTo(10);
            run.append(" follow " + n);
            same("", x.follow(n), oracle.follow(n));
        } else if (kind < 32) {
            int b = aBird();
            int r = oneOf(10) ? upTo(403) - 2 : oneOf(10) ? -1 : 20 + upTo(80);
            run.append(" range " + b + " " + r);
            same("", x.range(b, r), oracle.range(b, r));
        } else if (kind < 36) {
            int k = upTo(22) - 1;
            run.append(" measure " + k);
            same("", x.measure(k), oracle.measure(k));
        } else if (kind < 41) {
            run.append(" undo");
            same("", x.undo(), oracle.undo());
        } else if (kind < 43) {
            run.append(" keep");
            same("", x.keep(), oracle.keep());
        } else {
            run.append(" back");
            same("", x.back(), oracle.back());
        }
        if (oneOf(4)) {
            allOfChannels();
        }
    }

    private void aHunt(int kind) {
        int b = aBird();
        int p = aPeriod();
        if (kind < 54) {
            int m = oneOf(9) ? upTo(5) : 1 + upTo(3);
            int what = upTo(4);
            same("hunt " + b + " " + p + " " + m + " " + what, x.hunt(b, p, m, what), oracle.hunt(b, p, m, what));
        } else if (kind < 57) {
            same("listen " + b + " " + p, x.listen(b, p), oracle.listen(b, p));
        } else if (kind < 61) {
            int what = upTo(3);
            same("clear " + b + " " + p + " " + what, x.clear(b, p, what), oracle.clear(b, p, what));
        } else if (kind == 61) {
            same("limit " + b + " " + p, x.limit(b, p), oracle.limit(b, p));
        } else if (kind == 62) {
            int n = upTo(11);
            int what = upTo(2);
            same("chance " + b + " " + p + " " + n + " " + what, x.chance(b, p, n, what),
                oracle.chance(b, p, n, what));
        } else if (kind == 63) {
            int n = upTo(9);
            same("clearest " + b + " " + p + " " + n, x.clearest(b, p, n), oracle.clearest(b, p, n));
        } else {
            int start = upTo(63) - 1;
            same("tune " + b + " " + p + " " + start, x.tune(b, p, start), oracle.tune(b, p, start));
        }
    }

    private void aSample(int kind) {
        if (kind < 75) {
            int n = oneOf(20) ? 12390 + upTo(20) : upTo(12399);
            int what = upTo(3) - 1;
            same("sample " + n + " " + what, x.sample(n, what), oracle.sample(n, what));
        } else if (kind < 80) {
            int b = aBird();
            int p = aPeriod();
            int cell = oneOf(20) ? 925 + upTo(10) : upTo(929);
            int turn = oneOf(20) ? upTo(17) - 1 : upTo(15);
            for (int what = -1; what <= 3; what++) {
                same("sum " + b + " " + p + " " + cell + " " + turn + " " + what, x.sum(b, p, cell, turn, what),
                    oracle.sum(b, p, cell, turn, what));
            }
        } else if (kind < 83) {
            int b = aBird();
            int number = upTo(202) - 1;
            same("bit " + b + " " + number, x.bit(b, number), oracle.bit(b, number));
        } else {
            int n = upTo(42) - 1;
            int what = upTo(4) - 1;
            same("tried " + n + " " + what, x.tried(n, what), oracle.tried(n, what));
        }
    }

    private void aPlace(int kind) {
        if (kind < 90) {
            int what = upTo(6) - 1;
            same("fix " + what, x.fix(what), oracle.fix(what));
        } else if (kind < 94) {
            int b = aBird();
            int what = upTo(6) - 1;
            same("fixWithout " + b + " " + what, x.fixWithout(b, what), oracle.fixWithout(b, what));
        } else if (kind < 95) {
            same("suspect", x.suspect(), oracle.suspect());
        } else {
            int limit = oneOf(9) ? upTo(10001) - 1 : upTo(400);
            same("spread " + limit, x.spread(limit), oracle.spread(limit));
        }
    }
}
