/** Promise 6: bird. */
public final class Promise06BirdTest {
    public static void main(String[] args) {
        all();
        theLeastAndTheMost();
        asTold();
        noSuchBird();
        noSuchWhat();
        oneAheadOfTheOther();
        Check.end("Promise06BirdTest");
    }

    private static void same(Run x, int bird, int... due) {
        for (int what = 0; what < due.length; what++) {
            Check.same("bird " + bird + " " + what, x.bird(bird, what), due[what]);
        }
    }

    private static void all() {
        Run x = Run.of("bird a 30;bird b 0;bird c 5;bird d 7;bird e 9;heard b 61 14 15 9;heard c 11 12 13 4;drift c 20;"
            + "fade a 199;send c 0 0;send c 1 1;send b 2 2;place b 15 0 7;place e 1 2 3;drift e 3;fade c 8;");
        same(x, 0, 30, -2, -2, -2, -2, -2, 199, 0, -2, -2, -2);
        same(x, 1, 0, 61, 14, 15, 9, -2, -2, 1, 15, 0, 7);
        same(x, 2, 5, 11, 12, 13, 4, 20, 8, 2, -2, -2, -2);
        same(x, 3, 7, -2, -2, -2, -2, -2, -2, 0, -2, -2, -2);
        same(x, 4, 9, -2, -2, -2, -2, 3, -2, 0, 1, 2, 3);
    }

    private static void theLeastAndTheMost() {
        same(Run.of("bird a 0;heard a 0 0 0 1;drift a 1;fade a 1;place a 0 0 0;"), 0, 0, 0, 0, 0, 1, 1, 1, 0, 0, 0, 0);
        same(Run.of("bird a 30;heard a 61 14 15 9;drift a 20;fade a 199;place a 15 15 15;" + "send a 0 0;".repeat(10)),
            0, 30, 61, 14, 15, 9, 20, 199, 10, 15, 15, 15);
    }

    /** START is as told, whatever has drifted, followed or faded. */
    private static void asTold() {
        Run x = Run.of("bird a 3;heard a 60 7 0 9;drift a 1;fade a 190;");
        x.sample(12000, 0);
        x.lock(0, 150);
        x.follow(20);
        same(x, 0, 3, 60, 7, 0, 9, 1, 190, 0, -2, -2, -2);
    }

    /** "IndexOutOfBoundsException: no such BIRD". */
    private static void noSuchBird() {
        Check.same("of a new object", new Run().thrown(0, 0), 1);
        String text = "";
        for (int birds = 0; birds <= 5; birds++) {
            Run x = Run.of(text);
            for (int bird = 0; bird < birds; bird++) {
                Check.same("bird " + bird + " of " + birds, x.thrown(bird, 0), 0);
            }
            for (int bird : Check.beside(0, birds - 1)) {
                Check.same("bird " + bird + " of " + birds, x.thrown(bird, 0), 1);
            }
            text += "bird " + (char) ('a' + birds) + " " + birds + ";";
        }
        Run less = Run.of("bird a 0;bird b 0;");
        less.tell("bird a 0;");
        Check.same("of a text ahead", less.thrown(1, 0), 1);
    }

    private static void noSuchWhat() {
        Run x = Run.of("bird a 0;heard a 1 1 1 1;place a 1 1 1;bird b 1;");
        for (int bird = 0; bird < 2; bird++) {
            Check.same("what 0", x.thrown(bird, 0), 0);
            Check.same("what 10", x.thrown(bird, 10), 0);
            for (int what : Check.beside(0, 10)) {
                Check.same("what " + what, x.thrown(bird, what), 2);
            }
        }
        Check.leaves(x, "refused", 7, o -> {
            try {
                return o.bird(0, 11);
            } catch (java.util.NoSuchElementException e) {
                return 7;
            }
        });
    }

    /** "IndexOutOfBoundsException ahead of NoSuchElementException". */
    private static void oneAheadOfTheOther() {
        Run x = Run.of("bird a 0;");
        for (int bird : Check.beside(0, 0)) {
            for (int what : Check.beside(0, 10)) {
                Check.same("bird " + bird + " what " + what, x.thrown(bird, what), 1);
            }
        }
        Check.same("of a new object", new Run().thrown(0, 11), 1);
    }
}
