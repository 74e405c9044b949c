/** Promises 39 to 43: trials, undo, the image, counts. */
public final class StateTest {
    private static final String TEXT = "bird a 4;bird b 1;heard a 3 6 5 2;heard b 9 8 0 2;send a 1 5;send b 2 44;"
        + "noise 20;ratio 10;home 1 2 3 4;place a 1 1 1;";

    public static void main(String[] args) {
        trials();
        trialsRefused();
        undoOfEach();
        tenAtMost();
        refusedOnes();
        images();
        imagesAndTexts();
        counts();
        Check.end("StateTest");
    }

    /** All that is told of channels and ranges, as one text. */
    private static String state(BirdCodes x) {
        StringBuilder all = new StringBuilder();
        for (int c = 0; c < 4; c++) {
            for (int what = 0; what < 9; what++) {
                all.append(x.channel(c, what)).append(' ');
            }
            for (int i = 0; i < 64; i++) {
                all.append(x.logged(c, i));
            }
        }
        all.append(x.count(2)).append(' ').append(x.count(3)).append(' ').append(x.count(6));
        return all.toString();
    }

    private static void same(String what, String got, String due) {
        Check.same(what, got.equals(due) ? 1 : 0, 1);
    }

    private static void trials() {
        for (int seed = 0; seed < 8; seed++) {
            BirdCodes x = Check.of(TEXT + "fade a 60;seed " + seed + ";");
            x.lock(0, 5);
            x.lock(1, 30);
            x.lock(1, 190);
            for (int n : new int[] {1, 16, 40}) {
                String was = state(x);
                int[] tried = {x.tried(n, 0), x.tried(n, 1), x.tried(n, 2)};
                same("a trial changes nothing", state(x), was);
                Check.same("nothing to undo more", x.count(12), 3);
                x.follow(n);
                int frames = 0;
                int bad = 0;
                for (int c = 0; c < 3; c++) {
                    frames += x.frame(c, -1, 0);
                    bad += x.bad(c);
                }
                Check.same("tried lost", tried[0], x.count(3));
                Check.same("tried frames", tried[1], frames);
                Check.same("tried bad", tried[2], bad);
                x.undo();
            }
        }
        BirdCodes lost = Check.of("bird a 4;heard a 20 7 0 9;fade a 10;");
        lost.lock(0, 7);
        Check.same("not yet", lost.tried(4, 0), 0);
        Check.same("lost by then", lost.tried(5, 0), 1);
        lost.follow(5);
        Check.same("lost already", lost.tried(1, 0), 1);
    }

    private static void trialsRefused() {
        BirdCodes x = Check.of(TEXT);
        x.lock(0, 5);
        for (int wrong : new int[] {0, -1, 41, Integer.MIN_VALUE, Integer.MAX_VALUE}) {
            Check.same("tried " + wrong, x.tried(wrong, 0), -1);
        }
        for (int wrong : new int[] {-1, 3, Integer.MIN_VALUE, Integer.MAX_VALUE}) {
            Check.same("tried what " + wrong, x.tried(1, wrong), -1);
        }
        Check.same("tried 40", x.tried(40, 0) >= 0 ? 1 : 0, 1);
    }

    private static void undoOfEach() {
        BirdCodes x = Check.of(TEXT);
        String none = state(x);
        x.lock(0, 5);
        String locked = state(x);
        x.follow(20);
        String followed = state(x);
        x.range(1, 7);
        String ranged = state(x);
        x.measure(2);
        int measured = x.range(0, 9);
        x.undo();
        String measuredState = state(x);
        x.drop();
        Check.same("undo drop", x.undo(), 4);
        same("behind drop", state(x), measuredState);
        Check.same("measured", x.range(0, 8), measured);
        Check.same("undo range", x.undo(), 4);
        Check.same("measured again", x.range(0, 8), measured);
        x.undo();
        Check.same("undo measure", x.undo(), 3);
        same("behind measure", state(x), ranged);
        Check.same("no range ahead of it", x.range(0, 5), -1);
        x.undo();
        Check.same("undo range", x.undo(), 2);
        same("behind range", state(x), followed);
        Check.same("undo follow", x.undo(), 1);
        same("behind follow", state(x), locked);
        Check.same("undo lock", x.undo(), 0);
        same("behind lock", state(x), none);
        Check.same("none", x.undo(), -1);
        // An undo isn't undone.
        x.lock(0, 5);
        x.undo();
        Check.same("none", x.undo(), -1);
    }

    private static void tenAtMost() {
        BirdCodes x = Check.of("bird a 4;");
        for (int k = 1; k <= 25; k++) {
            x.range(0, k);
            Check.same("can be undone", x.count(12), Math.min(10, k));
        }
        for (int k = 9; k >= 0; k--) {
            Check.same("undo", x.undo(), k);
        }
        Check.same("an eleventh", x.undo(), -1);
        Check.same("the eleventh stays", x.range(0, 99), 15);
        Check.same("one", x.count(12), 1);
        x.undo();
        for (int k = 0; k < 7; k++) {
            x.range(0, 200 + k);
            x.range(0, 300 + k);
            x.undo();
        }
        Check.same("seven", x.count(12), 7);
        Check.same("undo", x.undo(), 6);
        Check.same("as it was", x.range(0, 0), 205);
    }

    private static void refusedOnes() {
        BirdCodes x = Check.of("bird a 4;noise 9;ratio 99;");
        Check.same("lock refused", x.lock(0, 0) < 0 ? 1 : 0, 1);
        Check.same("drop refused", x.drop(), -1);
        Check.same("follow refused", x.follow(0), -1);
        Check.same("range refused", x.range(0, 401), -2);
        Check.same("measure refused", x.measure(0), -2);
        Check.same("nothing to undo", x.count(12), 0);
        Check.same("undo refused", x.undo(), -1);
    }

    private static void images() {
        BirdCodes x = Check.of(TEXT);
        Check.same("no image", x.back(), -1);
        x.lock(0, 5);
        x.follow(9);
        x.range(1, 7);
        String kept = state(x);
        Check.same("keep", x.keep(), 1);
        Check.same("keep isn't undone", x.count(12), 3);
        same("keep changes nothing", state(x), kept);
        x.lock(1, 8);
        x.follow(30);
        x.range(1, 300);
        x.range(0, 55);
        Check.same("back", x.back(), 1);
        same("as kept", state(x), kept);
        Check.same("range as kept", x.range(1, 1), 7);
        Check.same("behind back only that", x.count(12), 1);
        x.undo();
        Check.same("nothing behind back", x.undo(), -1);
        x.drop();
        Check.same("it stays", x.back(), 1);
        same("as kept once more", state(x), kept);
        x.drop();
        x.drop();
        x.range(1, -1);
        x.undo();
        x.undo();
        same("undo doesn't touch it", state(x), kept);
        x.lock(1, 8);
        Check.same("another one", x.keep(), 2);
        x.drop();
        x.drop();
        Check.same("back to that", x.back(), 2);
        Check.same("channels", x.count(2), 2);
        BirdCodes empty = Check.of(TEXT);
        Check.same("an empty one", empty.keep(), 0);
        empty.lock(0, 3);
        Check.same("back to the empty one", empty.back(), 0);
        Check.same("no channels", empty.count(2), 0);
        BirdCodes fresh = new BirdCodes();
        Check.same("keep of a new object", fresh.keep(), 0);
        Check.same("back of a new object", fresh.back(), 0);
    }

    private static void imagesAndTexts() {
        BirdCodes x = Check.of(TEXT);
        x.lock(0, 5);
        x.keep();
        Check.same("a text with a fault", Check.tell(x, "bird;"), -1);
        Check.same("undo stays", x.count(12), 1);
        Check.same("the image stays", x.back(), 1);
        x.follow(1);
        Check.same("a text", Check.tell(x, TEXT), 10);
        Check.same("no image", x.back(), -1);
        Check.same("no channels", x.count(2), 0);
        Check.same("no undo", x.undo(), -1);
    }

    private static void counts() {
        BirdCodes x = Check.of(TEXT + "bird c 9;place c 1 1 1;send a 1 1;seed 3;first 7;second 30;");
        x.lock(0, 3);
        x.lock(1, 3);
        x.range(2, 4);
        x.feed(0, 0, 0, 0, 0);
        int[] due = {3, 2, 2, 0, 3, 2, 1, 20, 10, 7, 30, 20, 3};
        for (int what = 0; what < due.length; what++) {
            Check.same("count " + what, x.count(what), due[what]);
        }
        for (int what : new int[] {-1, 13, Integer.MIN_VALUE, Integer.MAX_VALUE}) {
            Check.same("count " + what, x.count(what), -1);
        }
        x.drop();
        x.range(2, -1);
        Check.same("channels", x.count(2), 1);
        Check.same("ranges", x.count(6), 0);
    }
}
