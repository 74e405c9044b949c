/** Section 3, that promises 24 to 26 ask for: how a CHANNEL FOLLOWS a PERIOD. */
public final class Section3FollowTest {
    public static void main(String[] args) {
        stepByStep();
        earlyAndLate();
        earlyAndLateAlike();
        thePointGoesAround();
        theStartOfAPoint();
        turnsByTwiceQ();
        turnsWithIBelow0();
        turnsWithIOf0();
        turnsByTheLeast();
        turnsGoAround();
        nothingHeardTurnsNothing();
        bits();
        theLast64();
        belowAQuarter();
        weakAndStrongAgain();
        lostAtThree();
        lostInTheLastPeriod();
        below200();
        Check.end("Section3FollowTest");
    }

    private static void channel(Run x, int channel, int... due) {
        for (int what = 0; what < due.length; what++) {
            Check.same("channel " + channel + " " + what, x.channel(channel, what), due[what]);
        }
    }

    /** Each step by the answers of sum() and channel() ahead of it. */
    private static void stepByStep() {
        boolean[] seen = new boolean[8];
        for (int seed = 0; seed < 8; seed++) {
            Run x = Run.of("bird a 4;bird b 17;heard a 59 6 5 4;heard b 30 9 2 6;drift a 4;send a 2 33;"
                + "noise 35;seed " + seed + ";ratio 10;");
            x.lock(0, 2);
            for (int period = 3; period < 60 && x.channel(0, 7) == -2; period++) {
                int[] was = new int[9];
                for (int what = 0; what < 9; what++) {
                    was[what] = x.channel(0, what);
                }
                int at = was[1] / 4;
                int early = x.sum(0, period, 62 * was[2] + (at + 61) % 62, was[3], 2);
                int late = x.sum(0, period, 62 * was[2] + (at + 1) % 62, was[3], 2);
                int i = x.sum(0, period, 62 * was[2] + at, was[3], 0);
                int q = x.sum(0, period, 62 * was[2] + at, was[3], 1);
                int power = x.sum(0, period, 62 * was[2] + at, was[3], 2);
                int point = was[1] + (early > late ? 247 : early < late ? 1 : 0);
                int aside = i < 0 ? -q : q;
                int turn = was[3] + (2 * Math.abs(aside) <= Math.abs(i) ? 0 : aside > 0 ? 1 : 15);
                int weak = 4L * power < was[4] ? was[6] + 1 : 0;
                seen[early > late ? 0 : early < late ? 1 : 2] = true;
                seen[turn == was[3] ? 3 : turn == was[3] + 1 ? 4 : 5] = true;
                seen[6] |= was[6] > 0 && weak == 0;
                Check.same("follow", x.follow(1), 1);
                channel(x, 0, 0, point % 248, was[2], turn % 16, was[4], period + 1, weak,
                    weak == 3 ? period : -2, Math.min(64, was[8] + 1));
                Check.same("bit", x.logged(0, x.channel(0, 8) - 1), i < 0 ? 1 : 0);
            }
        }
        Check.yes("early", seen[0]);
        Check.yes("late", seen[1]);
        Check.yes("no turn", seen[3]);
        Check.yes("a turn more", seen[4]);
        Check.yes("a turn less", seen[5]);
    }

    // ---- the POINT ----

    /** One start more by drift: LATE is the greater one, until four quarters are through. */
    private static void earlyAndLate() {
        Run x = Run.of("bird a 4;heard a 20 7 0 9;drift a 20;");
        x.lock(0, 0);
        Check.same("ahead of the drift", x.follow(19), 19);
        Check.same("point", x.channel(0, 1), 80);
        for (int quarter = 1; quarter <= 4; quarter++) {
            x.follow(1);
            Check.same("point in period " + (19 + quarter), x.channel(0, 1), 80 + quarter);
        }
        x.follow(16);
        Check.same("up to the next drift", x.channel(0, 1), 84);
        x.follow(1);
        Check.same("behind it", x.channel(0, 1), 85);
        // A louder one of its code one start ahead fades: what is left is EARLY.
        Run early = Run.of("bird a 4;bird b 4;heard a 20 7 0 9;heard b 19 7 0 4;fade a 5;");
        early.lock(0, 0);
        Check.same("locked at a's start", early.channel(0, 1), 80);
        early.follow(1);
        Check.same("EARLY is greater", early.channel(0, 1), 79);
    }

    /** "If EARLY's POWER is greater", "if it is less": alike it stays. */
    private static void earlyAndLateAlike() {
        Run x = Run.of("bird a 4;heard a 20 7 0 9;");
        x.lock(0, 0);
        Check.same("alike", x.sum(0, 1, 434 + 19, 0, 2), x.sum(0, 1, 434 + 21, 0, 2));
        x.follow(64);
        x.follow(64);
        Check.same("it stays", x.channel(0, 1), 80);
        Run first = Run.of("bird a 4;heard a 0 7 0 9;");
        first.lock(0, 0);
        Check.same("alike, around", first.sum(0, 1, 434 + 61, 0, 2), first.sum(0, 1, 434 + 1, 0, 2));
        first.follow(64);
        Check.same("it stays at 0", first.channel(0, 1), 0);
        Run last = Run.of("bird a 4;heard a 61 7 0 9;");
        last.lock(0, 0);
        last.follow(64);
        Check.same("it stays at 244", last.channel(0, 1), 244);
    }

    /** "around": 247 and 0 are one apart. */
    private static void thePointGoesAround() {
        Run up = Run.of("bird a 4;heard a 61 7 0 9;drift a 20;");
        up.lock(0, 0);
        up.follow(19);
        int[] due = {245, 246, 247, 0, 0};
        for (int k = 0; k < due.length; k++) {
            up.follow(1);
            Check.same("point " + k, up.channel(0, 1), due[k]);
        }
        // One of its code a start ahead, around: EARLY is greater at 0, LATE is greater at 247.
        Run down = Run.of("bird a 4;bird b 4;heard a 0 7 0 9;heard b 61 7 0 4;");
        down.lock(0, 0);
        Check.same("locked at 0", down.channel(0, 1), 0);
        Check.yes("EARLY is 61", down.sum(0, 1, 434 + 61, 0, 2) > down.sum(0, 1, 434 + 1, 0, 2));
        down.follow(1);
        Check.same("one less than 0", down.channel(0, 1), 247);
        Check.yes("LATE is 0", down.sum(0, 2, 434 + 60, 0, 2) < down.sum(0, 2, 434, 0, 2));
        down.follow(1);
        Check.same("one more than 247", down.channel(0, 1), 0);
    }

    /** "SUMS at the POINT by 4, that is PROMPT": a POINT of 83 is start 20 yet, one of 79 is start 19. */
    private static void theStartOfAPoint() {
        Run x = Run.of("bird a 4;heard a 20 7 0 8;drift a 20;");
        x.lock(0, 0);
        x.follow(22);
        Check.same("point", x.channel(0, 1), 83);
        int[] due = {x.sum(0, 23, 434 + 19, 0, 2), x.sum(0, 23, 434 + 21, 0, 2)};
        Check.yes("of start 20 LATE is greater", due[0] < due[1]);
        x.follow(1);
        Check.same("point", x.channel(0, 1), 84);
        // Of 84 on it is start 21, where both are alike.
        Check.same("alike", x.sum(0, 24, 434 + 20, 0, 2), x.sum(0, 24, 434 + 22, 0, 2));
        x.follow(1);
        Check.same("point", x.channel(0, 1), 84);
    }

    // ---- the TURN ----

    /** 16 strong by TURN 0 (I is 1550), another 8 strong a quarter off (Q is 775 or -775), as told. */
    private static Run quarter(int turn, int other, int strength) {
        Run x = Run.of("bird a 4;bird b 4;bird c 4;heard a 9 7 " + turn + " 8;heard b 9 7 " + turn + " 8;heard c 9 7 "
            + other + " " + strength + ";");
        Check.same("lock", x.lock(0, 0), 0);
        Check.same("I", x.sum(0, 1, 434 + 9, 0, 0), turn == 0 ? 1550 : -1550);
        return x;
    }

    private static void turned(String what, Run x, int q, int due) {
        Check.same("Q, " + what, x.sum(0, 1, 434 + 9, 0, 1), q);
        x.follow(1);
        Check.same("TURN, " + what, x.channel(0, 3), due);
    }

    /** "if twice of this without its sign is greater than I without its sign". */
    private static void turnsByTwiceQ() {
        turned("twice it is as much", quarter(0, 4, 8), 775, 0);
        turned("twice less it is as much", quarter(0, 12, 8), -775, 0);
        turned("twice it is greater", quarter(0, 4, 9), 871, 1);
        turned("twice less it is greater", quarter(0, 12, 9), -872, 15);
    }

    /** "Q, or less Q, if I is below 0". */
    private static void turnsWithIBelow0() {
        turned("I below 0, as much", quarter(8, 4, 8), 775, 0);
        turned("I below 0, less as much", quarter(8, 12, 8), -775, 0);
        turned("I below 0, Q above it", quarter(8, 4, 9), 871, 15);
        turned("I below 0, Q below it", quarter(8, 12, 9), -872, 1);
    }

    /** "if I is below 0": of 0 it isn't; Q alone is left of a code a quarter off. */
    private static void turnsWithIOf0() {
        for (int strength = 1; strength <= 9; strength += 4) {
            Run more = Run.of("bird a 4;heard a 9 7 4 " + strength + ";");
            more.lock(0, 0);
            Check.same("I", more.sum(0, 1, 434 + 9, 0, 0), 0);
            turned("I of 0, Q above it", more, (620 * 10 * strength) / 64, 1);
            Check.same("bit of 0", more.logged(0, 0), 0);
            Run less = Run.of("bird a 4;heard a 9 7 12 " + strength + ";");
            less.lock(0, 0);
            Check.same("I", less.sum(0, 1, 434 + 9, 0, 0), 0);
            turned("I of 0, Q below it", less, Math.floorDiv(-620 * 10 * strength, 64), 15);
        }
    }

    /** Of next to nothing, I and Q of -1, 0, 1, it goes by the same rules. */
    private static void turnsByTheLeast() {
        boolean[][] seen = new boolean[3][3];
        for (int seed = 0; seed < 600; seed++) {
            Run x = Run.of("bird a 4;heard a 0 7 0 1;fade a 1;noise 1;seed " + seed + ";");
            int i = x.sum(0, 1, 434, 0, 0);
            int q = x.sum(0, 1, 434, 0, 1);
            if (Math.abs(i) > 1 || Math.abs(q) > 1) {
                continue;
            }
            x.lock(0, 0);
            Check.same("locked at", x.channel(0, 1), 0);
            Check.same("by shift", x.channel(0, 2), 7);
            x.follow(1);
            seen[i + 1][q + 1] = true;
            // Twice a Q of 1 is greater than an I of 1.
            int turn = q == 0 ? 0 : q > 0 == i >= 0 ? 1 : 15;
            Check.same("TURN by " + i + " and " + q, x.channel(0, 3), turn);
            Check.same("bit by " + i, x.logged(0, 0), i < 0 ? 1 : 0);
        }
        for (int i = 0; i < 3; i++) {
            for (int q = 0; q < 3; q++) {
                Check.yes("I " + (i - 1) + " and Q " + (q - 1) + " are seen", seen[i][q]);
            }
        }
    }

    /** "around": 15 and 0 are one apart. Sixteen strong by TURN 0, nine more a quarter off, to either side. */
    private static void turnsGoAround() {
        Run x = Run.of("bird a 4;bird b 4;bird c 4;bird d 4;bird e 4;heard a 9 7 0 8;heard b 9 7 0 8;"
            + "heard c 9 7 12 9;heard d 9 7 12 9;heard e 9 7 4 9;fade c 5;fade d 5;");
        Check.same("lock", x.lock(0, 0), 0);
        int[] due = {15, 15, 15, 15, 0, 1, 1, 1};
        for (int k = 0; k < due.length; k++) {
            x.follow(1);
            Check.same("TURN in period " + (k + 1), x.channel(0, 3), due[k]);
        }
    }

    private static void nothingHeardTurnsNothing() {
        Run x = Run.of("bird a 4;heard a 20 7 3 9;fade a 5;");
        x.lock(0, 0);
        x.follow(4);
        int turn = x.channel(0, 3);
        int point = x.channel(0, 1);
        x.follow(3);
        Check.same("TURN", x.channel(0, 3), turn);
        Check.same("POINT", x.channel(0, 1), point);
    }

    // ---- the LOG ----

    /** "BIT: 1, if I is below 0, else 0". */
    private static void bits() {
        Run x = Run.of("bird a 4;heard a 0 7 0 9;send a 1 5;fade a 20;");
        x.lock(0, 0);
        x.follow(22);
        for (int i = 0; i < 19; i++) {
            Check.same("bit " + i, x.logged(0, i), x.bit(0, 1 + i));
        }
        // I of nothing is 0.
        Check.same("I", x.sum(0, 20, 434, 0, 0), 0);
        Check.same("bit of nothing", x.logged(0, 19), 0);
        Check.same("bit of nothing", x.logged(0, 21), 0);
        // An I of -1, that is a part of 64 below 0.
        boolean seen = false;
        for (int seed = 0; seed < 3000 && !seen; seed++) {
            Run little = Run.of("bird a 4;heard a 0 7 0 1;fade a 1;noise 1;seed " + seed + ";");
            if (little.sum(0, 1, 434, 0, 0) == -1) {
                seen = true;
                Check.same("lock", little.lock(0, 0), 0);
                little.follow(1);
                Check.same("bit of -1", little.logged(0, 0), 1);
            }
        }
        Check.yes("-1 is seen", seen);
    }

    /** "the last 64 are in its LOG". */
    private static void theLast64() {
        Run x = Run.of("bird a 4;heard a 0 7 0 9;send a 1 5;send a 2 60;");
        x.lock(0, 0);
        x.follow(63);
        Check.same("63", x.channel(0, 8), 63);
        x.follow(1);
        Check.same("64", x.channel(0, 8), 64);
        for (int more = 0; more <= 3; more++) {
            for (int i = 0; i < 64; i++) {
                Check.same("bit " + i + " behind " + more, x.logged(0, i), x.bit(0, 1 + more + i));
            }
            x.follow(1);
            Check.same("64 it stays", x.channel(0, 8), 64);
        }
        x.follow(64);
        x.follow(64);
        Check.same("64 it stays", x.channel(0, 8), 64);
        for (int i = 0; i < 64; i++) {
            Check.same("bit " + i + " at the end", x.logged(0, i), x.bit(0, 196 - 63 + i));
        }
    }

    // ---- WEAK and LOST ----

    /** "if four times PROMPT's POWER is below BASE": ten strong, and five, a quarter of it, is not below. */
    private static void belowAQuarter() {
        Run x = Run.of("bird a 4;bird b 4;heard a 0 7 0 5;heard b 0 7 0 5;fade b 10;");
        x.lock(0, 0);
        Check.same("BASE", x.channel(0, 4), 968 * 968);
        Check.same("follow", x.follow(30), 30);
        Check.same("POWER", x.sum(0, 20, 434, 0, 2), 484 * 484);
        Check.same("not WEAK", x.channel(0, 6), 0);
        // Nine and four: 387 is less than a half of 871.
        Run weak = Run.of("bird a 4;bird b 4;heard a 0 7 0 4;heard b 0 7 0 5;fade b 10;");
        weak.lock(0, 0);
        Check.same("follow", weak.follow(10), 10);
        Check.same("WEAK", weak.channel(0, 6), 1);
        // The BASE stays that of the lock, however strong it is by then.
        Check.same("BASE", weak.channel(0, 4), 871 * 871);
    }

    /** "else 0": BITS that change in the middle of a PERIOD take the sums away, two times one behind another. */
    private static void weakAndStrongAgain() {
        String text = "bird a 4;heard a 31 7 0 8;send a 0 1;";
        Run x = Run.of(text);
        Oracle o = Oracle.of(text);
        Check.same("lock", x.lock(0, 6), o.lock(0, 6));
        boolean again = false;
        for (int k = 0; k < 64; k++) {
            int was = x.channel(0, 6);
            Check.same("follow", x.follow(1), o.follow(1));
            for (int what = 0; what < 9; what++) {
                Check.same("channel 0 " + what, x.channel(0, what), o.channel(0, what));
            }
            again |= was == 2 && x.channel(0, 6) == 0;
        }
        Check.yes("WEAK twice, then strong", again);
        Check.same("not LOST", x.channel(0, 7), -2);
    }

    /** "at three it is LOST, there". */
    private static void lostAtThree() {
        Run x = Run.of("bird a 4;heard a 20 7 0 9;fade a 10;");
        x.lock(0, 0);
        int base = x.hunt(0, 0, 1, 1);
        x.follow(9);
        channel(x, 0, 0, 80, 7, 0, base, 10, 0, -2, 9);
        x.follow(1);
        channel(x, 0, 0, 80, 7, 0, base, 11, 1, -2, 10);
        x.follow(1);
        channel(x, 0, 0, 80, 7, 0, base, 12, 2, -2, 11);
        Check.same("the third time", x.follow(9), 1);
        channel(x, 0, 0, 80, 7, 0, base, 13, 3, 12, 12);
        Check.same("one that is LOST doesn't FOLLOW", x.follow(9), 0);
        channel(x, 0, 0, 80, 7, 0, base, 13, 3, 12, 12);
        Run first = Run.of("bird a 4;heard a 20 7 0 9;fade a 1;");
        first.lock(0, 0);
        Check.same("weak from the first on", first.follow(64), 3);
        channel(first, 0, 0, 80, 7, 0, base, 4, 3, 3, 3);
    }

    private static void lostInTheLastPeriod() {
        Run x = Run.of("bird a 4;heard a 20 7 0 9;fade a 197;");
        x.lock(0, 190);
        Check.same("follow", x.follow(20), 9);
        channel(x, 0, 0, 80, 7, 0, x.hunt(0, 190, 1, 1), 200, 3, 199, 9);
        Run two = Run.of("bird a 4;heard a 20 7 0 9;fade a 198;");
        two.lock(0, 190);
        Check.same("follow", two.follow(20), 9);
        channel(two, 0, 0, 80, 7, 0, x.hunt(0, 190, 1, 1), 200, 2, -2, 9);
    }

    /** "next PERIOD below 200". */
    private static void below200() {
        Run x = Run.of("bird a 4;heard a 0 7 0 9;send a 3 9;");
        x.lock(0, 198);
        Check.same("follow", x.follow(2), 1);
        channel(x, 0, 0, 0, 7, 0, x.hunt(0, 198, 1, 1), 200, 0, -2, 1);
        Check.same("at the end", x.follow(1), 0);
        channel(x, 0, 0, 0, 7, 0, x.hunt(0, 198, 1, 1), 200, 0, -2, 1);
    }
}
