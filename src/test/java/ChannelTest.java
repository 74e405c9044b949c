import java.util.ArrayList;
import java.util.List;

/** Promises 22 to 31: channels, what they follow, their logs and frames. */
public final class ChannelTest {
    private static final int[] WRONG = {-1, 5, Integer.MIN_VALUE, Integer.MAX_VALUE};

    public static void main(String[] args) {
        locks();
        lockRefused();
        drops();
        follows();
        followsByTheRules();
        losses();
        justNotWeak();
        upToTheEnd();
        logs();
        framesOfALog();
        framesTurnedOver();
        badPlaces();
        badAlone();
        errors();
        latest();
        offs();
        wrongOnes();
        Check.end("ChannelTest");
    }

    private static void channel(BirdCodes x, int channel, int... due) {
        for (int what = 0; what < due.length; what++) {
            Check.same("channel " + channel + " " + what, x.channel(channel, what), due[what]);
        }
    }

    private static void locks() {
        BirdCodes x = Check.of("bird a 4;bird b 9;heard a 61 2 3 5;heard b 7 11 0 5;");
        int power = x.hunt(1, 50, 1, 1);
        Check.same("lock 1 50", x.lock(1, 50), 0);
        channel(x, 0, 1, 28, 11, 0, power, 51, 0, -2, 0);
        int other = x.hunt(0, 198, 1, 1);
        Check.same("lock 0 198", x.lock(0, 198), 1);
        channel(x, 1, 0, 244, 2, 0, other, 199, 0, -2, 0);
        Check.same("the first stays", x.channel(0, 5), 51);
        Check.same("one bird twice", x.lock(1, 50), 2);
        Check.same("count", x.count(2), 3);
        channel(x, 2, 1, 28, 11, 0, power, 51, 0, -2, 0);
    }

    private static void lockRefused() {
        BirdCodes x = Check.of("bird a 4;bird b 9;heard a 61 2 3 9;fade a 100;ratio 30;");
        Check.same("lock of one not heard", x.lock(1, 0), -2);
        Check.same("lock of one faded", x.lock(0, 100), -2);
        Check.same("lock at 199", x.lock(0, 199), -1);
        Check.same("lock at 200", x.lock(0, 200), -1);
        Check.same("lock at -1", x.lock(0, -1), -1);
        Check.same("lock of bird 2", x.lock(2, 0), -1);
        Check.same("lock of bird -1", x.lock(-1, 0), -1);
        Check.same("nothing to undo", x.count(12), 0);
        for (int k = 0; k < 4; k++) {
            Check.same("lock " + k, x.lock(0, k), k);
        }
        Check.same("a fifth one", x.lock(0, 4), -3);
        Check.same("-2 ahead of -3", x.lock(0, 100), -2);
        Check.same("NONE ahead of -3", x.lock(0, 199), -1);
        Check.same("four to undo", x.count(12), 4);
        Check.same("four channels", x.count(2), 4);
    }

    private static void drops() {
        BirdCodes x = Check.of("bird a 4;heard a 61 2 3 9;");
        Check.same("drop of none", x.drop(), -1);
        Check.same("nothing to undo", x.count(12), 0);
        x.lock(0, 3);
        x.lock(0, 5);
        x.follow(2);
        Check.same("drop", x.drop(), 1);
        Check.same("the first stays", x.channel(0, 5), 6);
        Check.same("the last one went", x.channel(1, 5), -1);
        Check.same("lock again", x.lock(0, 9), 1);
        channel(x, 1, 0, 244, 2, 0, x.hunt(0, 9, 1, 1), 10, 0, -2, 0);
        Check.same("no old log", x.logged(1, 0), -1);
        Check.same("drop", x.drop(), 1);
        Check.same("drop", x.drop(), 0);
        Check.same("drop of none", x.drop(), -1);
    }

    private static void follows() {
        BirdCodes x = Check.of("bird a 4;heard a 20 7 0 9;");
        Check.same("follow of none", x.follow(64), 0);
        Check.same("it can be undone", x.count(12), 1);
        x.lock(0, 3);
        x.lock(0, 60);
        Check.same("follow 5", x.follow(5), 10);
        Check.same("next", x.channel(0, 5), 9);
        Check.same("next", x.channel(1, 5), 66);
        Check.same("logged", x.channel(0, 8), 5);
        for (int n : new int[] {0, -1, 65, Integer.MIN_VALUE, Integer.MAX_VALUE}) {
            Check.same("follow " + n, x.follow(n), -1);
        }
        Check.same("refused ones aren't undone", x.count(12), 4);
        Check.same("follow 64", x.follow(64), 128);
        Check.same("follow 64", x.follow(64), 128);
        Check.same("next of the first", x.channel(0, 5), 137);
        Check.same("next of the second", x.channel(1, 5), 194);
        Check.same("follow 62, one comes to the end", x.follow(62), 62 + 6);
        Check.same("next of the first", x.channel(0, 5), 199);
        Check.same("next of the second", x.channel(1, 5), 200);
        Check.same("follow the last one", x.follow(64), 1);
        Check.same("follow at the end", x.follow(64), 0);
        Check.same("next at the end", x.channel(0, 5), 200);
    }

    /** One step more, by the answers of sum() and channel(). */
    private static void followsByTheRules() {
        boolean[] seen = new boolean[6];
        for (int seed = 0; seed < 6; seed++) {
            BirdCodes x = Check.of("bird a 4;bird b 17;heard a 59 6 5 4;heard b 30 9 2 6;drift a 4;send a 2 33;"
                + "noise 35;seed " + seed + ";ratio 10;");
            x.lock(0, 2);
            for (int period = 3; period < 60; period++) {
                int[] was = new int[9];
                for (int what = 0; what < 9; what++) {
                    was[what] = x.channel(0, what);
                }
                int cell = 62 * was[2] + was[1] / 4;
                int early = x.sum(0, period, 62 * was[2] + (was[1] / 4 + 61) % 62, was[3], 2);
                int late = x.sum(0, period, 62 * was[2] + (was[1] / 4 + 1) % 62, was[3], 2);
                int i = x.sum(0, period, cell, was[3], 0);
                int q = x.sum(0, period, cell, was[3], 1);
                int power = x.sum(0, period, cell, was[3], 2);
                int point = was[1] + (early > late ? 247 : early < late ? 1 : 0);
                int aside = i < 0 ? -q : q;
                int turn = was[3] + (2 * Math.abs(aside) <= Math.abs(i) ? 0 : aside > 0 ? 1 : 15);
                seen[early > late ? 0 : early < late ? 1 : 2] = true;
                seen[3 + (turn - was[3] + 14) / 14] = true;
                Check.same("follow", x.follow(1), was[7] == -2 ? 1 : 0);
                if (was[7] != -2) {
                    break;
                }
                int weak = 4 * power < was[4] ? was[6] + 1 : 0;
                channel(x, 0, 0, point % 248, was[2], turn % 16, was[4], period + 1, weak,
                    weak == 3 ? period : -2, Math.min(64, was[8] + 1));
                Check.same("bit", x.logged(0, x.channel(0, 8) - 1), i < 0 ? 1 : 0);
            }
        }
        Check.same("early", seen[0] ? 1 : 0, 1);
        Check.same("late", seen[1] ? 1 : 0, 1);
        // A bird that drifts on and on is followed on and on, around too.
        BirdCodes x = Check.of("bird a 4;heard a 55 7 0 5;drift a 9;");
        x.lock(0, 0);
        for (int k = 0; k < 3; k++) {
            Check.same("follow", x.follow(64), 64);
            Check.same("near", x.off(0) <= 1 ? 1 : 0, 1);
        }
        // A turn is found to one less, which is near enough.
        BirdCodes turning = Check.of("bird a 4;heard a 5 7 3 5;");
        turning.lock(0, 0);
        turning.follow(64);
        Check.same("turn found", turning.channel(0, 3), 2);
        Check.same("no bit turned over", turning.logged(0, 63), 0);
        // More than a quarter off it is found the other way up, around.
        BirdCodes over = Check.of("bird a 4;heard a 5 7 6 5;");
        over.lock(0, 0);
        over.follow(64);
        Check.same("turn found, turned over", over.channel(0, 3), 15);
        Check.same("bit turned over", over.logged(0, 63), 1);
    }

    private static void losses() {
        BirdCodes x = Check.of("bird a 4;heard a 20 7 0 9;fade a 10;");
        x.lock(0, 0);
        Check.same("follow", x.follow(9), 9);
        Check.same("not weak", x.channel(0, 6), 0);
        Check.same("follow", x.follow(1), 1);
        Check.same("weak", x.channel(0, 6), 1);
        Check.same("follow", x.follow(1), 1);
        channel(x, 0, 0, 80, 7, 0, x.hunt(0, 0, 1, 1), 12, 2, -2, 11);
        Check.same("tried", x.tried(1, 0), 1);
        Check.same("follow", x.follow(9), 1);
        channel(x, 0, 0, 80, 7, 0, x.hunt(0, 0, 1, 1), 13, 3, 12, 12);
        Check.same("lost", x.count(3), 1);
        Check.same("follow", x.follow(9), 0);
        Check.same("it stays", x.channel(0, 5), 13);
        Check.same("undone", x.undo(), 5);
        Check.same("undone", x.undo(), 4);
        Check.same("not lost", x.channel(0, 7), -2);
        Check.same("weak", x.channel(0, 6), 2);
    }

    private static void justNotWeak() {
        // Ten strong 62 times 100 by 64 is 968, five strong it is 484: a quarter of the power, not below it.
        BirdCodes x = Check.of("bird a 4;bird b 4;heard a 0 7 0 5;heard b 0 7 0 5;fade b 10;");
        x.lock(0, 0);
        Check.same("base", x.channel(0, 4), 968 * 968);
        Check.same("follow", x.follow(30), 30);
        Check.same("power", x.sum(0, 20, 434, 0, 2), 484 * 484);
        Check.same("not weak", x.channel(0, 6), 0);
        // Nine and four: 387 is less than a half of 871. Weak just twice isn't lost.
        BirdCodes weak = Check.of("bird a 4;bird b 4;heard a 0 7 0 4;heard b 0 7 0 5;fade b 10;");
        weak.lock(0, 0);
        Check.same("follow", weak.follow(30), 12);
        Check.same("lost", weak.channel(0, 7), 12);
    }

    private static void upToTheEnd() {
        BirdCodes x = Check.of("bird a 4;heard a 0 7 0 9;send a 3 9;");
        x.lock(0, 198);
        Check.same("follow", x.follow(2), 1);
        channel(x, 0, 0, 0, 7, 0, x.hunt(0, 198, 1, 1), 200, 0, -2, 1);
        // Lost in the very last one.
        BirdCodes lost = Check.of("bird a 4;heard a 20 7 0 9;fade a 197;");
        lost.lock(0, 190);
        Check.same("follow", lost.follow(20), 9);
        channel(lost, 0, 0, 80, 7, 0, lost.hunt(0, 190, 1, 1), 200, 3, 199, 9);
    }

    private static void logs() {
        BirdCodes x = Check.of("bird a 4;heard a 0 7 0 9;send a 1 5;send a 2 60;");
        x.lock(0, 0);
        x.follow(40);
        Check.same("bits", x.channel(0, 8), 40);
        for (int i = 0; i < 40; i++) {
            Check.same("bit " + i, x.logged(0, i), x.bit(0, 1 + i));
        }
        Check.same("bit 40", x.logged(0, 40), -1);
        Check.same("bit -1", x.logged(0, -1), -1);
        x.follow(64);
        Check.same("bits", x.channel(0, 8), 64);
        for (int i = 0; i < 64; i++) {
            Check.same("bit " + i, x.logged(0, i), x.bit(0, 41 + i));
        }
        Check.same("bit 64", x.logged(0, 64), -1);
        x.follow(1);
        for (int i = 0; i < 64; i++) {
            Check.same("bit " + i, x.logged(0, i), x.bit(0, 42 + i));
        }
    }

    /** Places, kinds and values by the log alone, read as the document says; the number of bad ones at last. */
    private static List<int[]> read(BirdCodes x, int channel) {
        StringBuilder log = new StringBuilder();
        for (int i = 0; i < x.channel(channel, 8); i++) {
            log.append(x.logged(channel, i));
        }
        List<int[]> found = new ArrayList<>();
        int bad = 0;
        for (int at = 0; at + 16 <= log.length(); at++) {
            int word = Integer.parseInt(log.substring(at, at + 16), 2);
            boolean over = log.substring(at, at + 4).equals("0100");
            if (!over && !log.substring(at, at + 4).equals("1011")) {
                continue;
            }
            word = over ? 65535 - word : word;
            String bits = Integer.toBinaryString(word);
            boolean right = true;
            for (int j = 0; j < 4; j++) {
                int ones = bits.charAt(12 + j) - '0';
                for (int number = 1; number <= 8; number++) {
                    ones += (number >> j & 1) * (bits.charAt(3 + number) - '0');
                }
                right &= ones % 2 == 0;
            }
            if (right) {
                found.add(new int[] {at, word >> 10 & 3, word >> 4 & 63, over ? 1 : 0});
                at += 15;
            } else {
                bad++;
            }
        }
        found.add(new int[] {bad});
        return found;
    }

    private static void sameFrames(BirdCodes x, int channel) {
        List<int[]> due = read(x, channel);
        int many = due.size() - 1;
        Check.same("frames", x.frame(channel, -1, 0), many);
        Check.same("frames, what is not asked", x.frame(channel, -1, 77), many);
        Check.same("frames, what is not asked", x.frame(channel, -1, -77), many);
        for (int k = 0; k < many; k++) {
            for (int what = 0; what < 4; what++) {
                Check.same("frame " + k + " " + what, x.frame(channel, k, what), due.get(k)[what]);
            }
        }
        Check.same("a frame more", x.frame(channel, many, 0), -2);
        Check.same("bad", x.bad(channel), due.get(many)[0]);
    }

    private static void framesOfALog() {
        // Locked at period 15, the log begins with bit 16: four frames are all of it.
        BirdCodes x = Check.of("bird a 4;heard a 0 7 0 9;send a 1 5;send a 2 60;send a 0 0;");
        x.lock(0, 15);
        x.follow(15);
        Check.same("frames of 15 bits", x.frame(0, -1, 0), 0);
        Check.same("no first one", x.frame(0, 0, 0), -2);
        x.follow(1);
        Check.same("frames of 16 bits", x.frame(0, -1, 0), 1);
        x.follow(48);
        Check.same("frames of 64 bits", x.frame(0, -1, 0), 4);
        int[][] due = {{0, 2, 60, 0}, {16, 0, 0, 0}, {32, 1, 5, 0}, {48, 2, 60, 0}};
        for (int k = 0; k < 4; k++) {
            for (int what = 0; what < 4; what++) {
                Check.same("frame " + k + " " + what, x.frame(0, k, what), due[k][what]);
            }
        }
        Check.same("a fifth one", x.frame(0, 4, 0), -2);
        Check.same("none is bad", x.bad(0), 0);
        Check.same("NONE ahead of -2", x.frame(0, 4, 4), -1);
        Check.same("frame -2", x.frame(0, -2, 0), -1);
        Check.same("what -1", x.frame(0, 0, -1), -1);
        Check.same("what 4", x.frame(0, 0, 4), -1);
        Check.same("far k", x.frame(0, Integer.MAX_VALUE, 0), -2);
        Check.same("least k", x.frame(0, Integer.MIN_VALUE, 0), -1);
    }

    private static void framesTurnedOver() {
        // A turn of 8 is all turned over, and the channel can't know it.
        BirdCodes x = Check.of("bird a 4;heard a 0 7 8 9;send a 1 5;send a 2 60;");
        x.lock(0, 15);
        x.follow(32);
        int[][] due = {{0, 2, 60, 1}, {16, 1, 5, 1}};
        Check.same("frames", x.frame(0, -1, 0), 2);
        for (int k = 0; k < 2; k++) {
            for (int what = 0; what < 4; what++) {
                Check.same("frame " + k + " " + what, x.frame(0, k, what), due[k][what]);
            }
        }
        Check.same("errors of all turned over", x.errors(0), 0);
        Check.same("latest", x.latest(0, 2), 60);
        sameFrames(x, 0);
    }

    private static void badPlaces() {
        int bad = 0;
        int over = 0;
        for (int seed = 0; seed < 30; seed++) {
            BirdCodes x = Check.of("bird a 4;bird b 1;heard a 3 6 5 1;heard b 9 8 0 1;send a 1 5;send b 2 44;send b 3 23;"
                + "noise 38;ratio 10;seed " + seed + ";");
            x.lock(0, seed);
            x.lock(1, seed + 1);
            x.follow(64);
            x.follow(1 + seed);
            sameFrames(x, 0);
            sameFrames(x, 1);
            bad += x.bad(0) + x.bad(1);
            for (int k = 0; k < x.frame(1, -1, 0); k++) {
                over += x.frame(1, k, 3);
            }
        }
        Check.same("bad ones are seen", bad > 10 ? 1 : 0, 1);
        Check.same("turned ones are seen", over > 0 ? 1 : 0, 1);
    }

    private static void badAlone() {
        // One at a time, not behind frame(): of the same object too.
        BirdCodes x = Check.of("bird a 4;bird b 7;heard a 0 7 0 9;heard b 31 3 0 3;send a 1 5;ratio 10;");
        Check.same("lock", x.lock(0, 0), 0);
        Check.same("lock", x.lock(1, 0), 1);
        x.follow(40);
        Check.same("bad of the first", x.bad(0), 2);
        List<int[]> second = read(x, 1);
        Check.same("bad of the second", x.bad(1), second.get(second.size() - 1)[0]);
        Check.same("another one than of the first", x.bad(1) != x.bad(0) ? 1 : 0, 1);
        Check.same("latest of the first", x.latest(0, 1), 5);
        Check.same("latest of the second", x.latest(1, 1), -2);
        Check.same("bad of the first", x.bad(0), 2);
    }

    private static void errors() {
        int most = 0;
        for (int noise = 0; noise <= 99; noise += 3) {
            BirdCodes x = Check.of("bird a 4;heard a 23 6 5 1;drift a 3;send a 1 5;send a 3 21;ratio 10;noise "
                + noise + ";");
            x.lock(0, 7);
            x.follow(50);
            int wrong = 0;
            int next = x.channel(0, 5);
            int bits = x.channel(0, 8);
            for (int i = 0; i < bits; i++) {
                int period = next - bits + i;
                int number = Math.floorDiv(62 * period + 31 - 23 - period / 3, 62);
                wrong += x.logged(0, i) != x.bit(0, number) ? 1 : 0;
            }
            most = Math.max(most, Math.min(wrong, bits - wrong));
            Check.same("errors by noise " + noise, x.errors(0), Math.min(wrong, bits - wrong));
        }
        Check.same("errors are seen", most > 3 ? 1 : 0, 1);
        // The log of 64 is the latest one.
        BirdCodes x = Check.of("bird a 4;heard a 0 7 0 9;send a 1 5;");
        x.lock(0, 0);
        Check.same("errors of an empty log", x.errors(0), 0);
        x.follow(64);
        x.follow(64);
        Check.same("errors of 128", x.errors(0), 0);
        BirdCodes unheard = Check.of("bird a 4;bird b 8;heard b 9 9 9 9;ratio 10;");
        Check.same("lock of one not heard", unheard.lock(0, 0), 0);
        unheard.follow(3);
        Check.same("errors of one not heard", unheard.errors(0), -2);
        Check.same("off of one not heard", unheard.off(0), -2);
        Check.same("errors of no channel", unheard.errors(1), -1);
        Check.same("off of no channel", unheard.off(1), -1);
    }

    private static void latest() {
        BirdCodes x = Check.of("bird a 4;heard a 0 7 0 9;send a 1 5;send a 2 60;send a 1 33;");
        x.lock(0, 15);
        Check.same("latest of none", x.latest(0, 1), -2);
        x.follow(48);
        Check.same("latest 1", x.latest(0, 1), 5);
        Check.same("latest 2", x.latest(0, 2), 60);
        Check.same("latest 3", x.latest(0, 3), -2);
        Check.same("latest 0", x.latest(0, 0), -2);
        x.undo();
        x.follow(31);
        Check.same("latest 1 of none", x.latest(0, 1), -2);
        x.follow(1);
        Check.same("latest 1 by then", x.latest(0, 1), 33);
        Check.same("latest 4", x.latest(0, 4), -1);
        Check.same("latest -1", x.latest(0, -1), -1);
        Check.same("latest of no channel", x.latest(1, 1), -1);
    }

    private static void offs() {
        BirdCodes x = Check.of("bird a 4;heard a 60 7 0 9;");
        x.lock(0, 0);
        Check.same("off", x.off(0), 0);
        // As strong two by two, and one of them elsewhere: the channel is of the other start.
        BirdCodes two = Check.of("bird a 4;bird b 4;heard a 60 7 0 2;heard b 30 7 0 9;");
        two.lock(0, 0);
        Check.same("off by 30", two.off(0), 30);
        Check.same("point", two.channel(0, 1), 120);
        BirdCodes around = Check.of("bird a 4;bird b 4;heard a 60 7 0 2;heard b 3 7 0 9;");
        around.lock(0, 0);
        Check.same("off by 5 around", around.off(0), 5);
        BirdCodes far = Check.of("bird a 4;bird b 4;heard a 60 7 0 2;heard b 29 7 0 9;");
        far.lock(0, 0);
        Check.same("off by 31", far.off(0), 31);
        // A drift that the channel hasn't followed yet: its next period counts.
        BirdCodes drifting = Check.of("bird a 4;bird b 4;heard a 60 7 0 2;heard b 30 7 0 9;drift a 1;");
        drifting.lock(0, 9);
        Check.same("next period 10", drifting.off(0), (60 + 10 - 30) > 31 ? 62 - 40 : 40);
        drifting.lock(0, 198);
        int point = drifting.channel(1, 1) / 4;
        Check.same("next period 199", drifting.off(1), apart(point, (60 + 199) % 62));
        drifting.follow(1);
        Check.same("next period", drifting.channel(1, 5), 200);
        point = drifting.channel(1, 1) / 4;
        Check.same("of 200 that of 199", drifting.off(1), apart(point, (60 + 199) % 62));
    }

    private static int apart(int one, int other) {
        int way = Math.floorMod(one - other, 62);
        return Math.min(way, 62 - way);
    }

    private static void wrongOnes() {
        BirdCodes x = Check.of("bird a 4;heard a 60 7 0 9;send a 1 1;");
        x.lock(0, 0);
        x.follow(64);
        for (int c : WRONG) {
            for (int what = 0; what < 9; what++) {
                Check.same("channel " + c, x.channel(c, what), -1);
            }
            Check.same("logged " + c, x.logged(c, 0), -1);
            Check.same("frame " + c, x.frame(c, -1, 0), -1);
            Check.same("frame " + c, x.frame(c, 0, 0), -1);
            Check.same("bad " + c, x.bad(c), -1);
            Check.same("errors " + c, x.errors(c), -1);
            Check.same("latest " + c, x.latest(c, 1), -1);
            Check.same("off " + c, x.off(c), -1);
        }
        for (int what : new int[] {-1, 9, Integer.MIN_VALUE, Integer.MAX_VALUE}) {
            Check.same("channel 0 " + what, x.channel(0, what), -1);
        }
        Check.same("channel 1", x.channel(1, 0), -1);
        Check.same("logged 1", x.logged(1, 0), -1);
        Check.same("frame 1", x.frame(1, -1, 0), -1);
        Check.same("bad 1", x.bad(1), -1);
        for (int i : new int[] {-1, 64, Integer.MIN_VALUE, Integer.MAX_VALUE}) {
            Check.same("logged 0 " + i, x.logged(0, i), -1);
        }
    }
}
