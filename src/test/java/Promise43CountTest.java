/** Promise 43: count. */
public final class Promise43CountTest {
    private static final String TEXT = "bird a 4;bird b 1;heard a 3 6 5 2;heard b 9 8 0 2;send a 1 5;send b 2 44;noise 20;"
        + "ratio 10;home 1 2 3 4;place a 1 1 1;bird c 9;place c 1 1 1;send a 1 1;seed 3;first 7;second 30;";

    public static void main(String[] args) {
        all();
        theLeastAndTheMost();
        ofThoseHeard();
        ofThoseLost();
        ofRanges();
        anotherWhat();
        Check.end("Promise43CountTest");
    }

    private static void same(String when, Run x, int... due) {
        for (int what = 0; what < due.length; what++) {
            Check.same("count " + what + " " + when, x.count(what), due[what]);
        }
    }

    private static void all() {
        Run x = Run.of(TEXT);
        same("told", x, 3, 2, 0, 0, 3, 2, 0, 20, 10, 7, 30, 0, 0);
        x.lock(0, 3);
        x.lock(1, 3);
        x.range(2, 4);
        x.feed(0, 0, 0, 0, 0);
        same("changed", x, 3, 2, 2, 0, 3, 2, 1, 20, 10, 7, 30, 20, 3);
        x.drop();
        x.range(2, -1);
        same("changed again", x, 3, 2, 1, 0, 3, 2, 0, 20, 10, 7, 30, 20, 5);
        x.undo();
        same("undone", x, 3, 2, 1, 0, 3, 2, 1, 20, 10, 7, 30, 20, 4);
    }

    private static void theLeastAndTheMost() {
        same("of nothing", Run.of(""), 0, 0, 0, 0, 0, 0, 0, 0, 15, 5, 29, 0, 0);
        StringBuilder text = new StringBuilder("noise 99;ratio 99;first 31;second 31;");
        for (char name = 'a'; name <= 'e'; name++) {
            text.append("bird ").append(name).append(" 0;heard ").append(name).append(" 0 0 0 1;place ").append(name)
                .append(" 0 0 0;send ").append(name).append(" 0 0;send ").append(name).append(" 0 0;");
        }
        Run x = Run.of(text.toString());
        for (int k = 0; k < 12; k++) {
            x.range(k % 5, 0);
        }
        x.feedText(" ".repeat(700));
        same("of all", x, 5, 5, 0, 0, 10, 5, 5, 99, 99, 31, 31, 700, 10);
        Run four = Run.of("bird a 4;heard a 3 6 5 9;ratio 10;noise 0;first 1;second 2;");
        for (int k = 0; k < 4; k++) {
            four.lock(0, k);
        }
        same("of four channels", four, 1, 1, 4, 0, 0, 0, 0, 0, 10, 1, 2, 0, 4);
    }

    private static void ofThoseHeard() {
        Run x = Run.of("bird a 0;bird b 0;bird c 0;heard b 1 1 1 1;fade b 1;drift a 1;send c 1 1;");
        same("of one heard", x, 3, 1, 0, 0, 1, 0);
    }

    /** "3 of these LOST". */
    private static void ofThoseLost() {
        Run x = Run.of("bird a 4;heard a 20 7 0 9;fade a 10;");
        x.lock(0, 7);
        x.lock(0, 3);
        x.follow(4);
        Check.same("not yet", x.count(3), 0);
        x.follow(1);
        Check.same("one", x.count(3), 1);
        x.follow(4);
        Check.same("both", x.count(3), 2);
        Check.same("they are channels yet", x.count(2), 2);
        x.drop();
        Check.same("one is left", x.count(3), 1);
    }

    /** Of those measured and by hand, with a place or without. */
    private static void ofRanges() {
        Run x = Run.of(TEXT);
        x.range(1, 0);
        Check.same("by hand", x.count(6), 1);
        x.measure(0);
        Check.same("measured", x.count(6), 3);
        x.range(0, -1);
        Check.same("one less", x.count(6), 2);
        x.tell(TEXT);
        Check.same("none behind a text", x.count(6), 0);
    }

    private static void anotherWhat() {
        Run x = Run.of(TEXT);
        for (int what : Check.beside(0, 12)) {
            Check.same("count " + what, x.count(what), -1);
            Check.same("count " + what + " of a new object", new Run().count(what), -1);
        }
        Check.leaves(x, "another what", -1, o -> o.count(13));
    }
}
