/** Promise 3: text. What a text may say is told in section 1. */
public final class Promise03TextTest {
    private static final String TOLD = "bird a 7;heard a 3 7 0 5;drift a 2;fade a 100;send a 1 1;place a 1 2 3;"
        + "home 1 1 1 1;noise 3;seed 9;ratio 20;first 3;second 7;";

    public static void main(String[] args) {
        theFirstBytes();
        howManyLines();
        theTapeIsEmptyThen();
        whatGoes();
        allTheOldLinesGo();
        aFaultLeavesAllElse();
        notSoMany();
        below0();
        Check.end("Promise03TextTest");
    }

    /** An object with channels, ranges, an image and something to undo. */
    private static Run full() {
        Run x = Run.of(TOLD);
        Check.same("lock", x.lock(0, 0), 0);
        x.follow(3);
        x.keep();
        Check.same("lock", x.lock(0, 9), 1);
        x.range(0, 50);
        return x;
    }

    private static void theFirstBytes() {
        String text = "bird a 3;bird b 4;noise 9;####";
        int[] ends = {0, 9, 18, 26};
        for (int lines = 0; lines < ends.length; lines++) {
            Run x = new Run();
            x.feedText(text);
            Check.same("first " + ends[lines], x.text(ends[lines]), lines);
            Check.same("birds of them", x.count(0), Math.min(2, lines));
            Check.same("noise of them", x.count(7), lines == 3 ? 9 : 0);
        }
        Run cut = new Run();
        cut.feedText("bird a 3;bird b 30;");
        Check.same("cut in a number", cut.text(17), -1);
        Check.same("what must come is told at the length", cut.fault(1), 17);
        Run one = new Run();
        one.feedText("noise 99;");
        Check.same("the first byte alone", one.text(1), -1);
        Check.same("a word cut", one.fault(1), 0);
    }

    private static void howManyLines() {
        Check.fine("", 0);
        Check.fine(" ", 0);
        Check.fine("noise 1;", 1);
        StringBuilder all = new StringBuilder();
        int lines = 0;
        for (String name : new String[] {"a", "b", "c", "d", "e"}) {
            all.append("bird ").append(name).append(" 0;heard ").append(name).append(" 0 0 0 1;drift ").append(name)
                .append(" 1;fade ").append(name).append(" 1;place ").append(name).append(" 0 0 0;send ").append(name)
                .append(" 0 0;send ").append(name).append(" 0 0;");
            lines += 7;
            Check.fine(all.toString(), lines);
        }
        all.append("home 0 0 0 0;first 1;second 1;noise 0;seed 0;ratio 10;");
        Check.fine(all.toString(), 41);
    }

    /** "The TAPE's first n bytes (it is empty then)". */
    private static void theTapeIsEmptyThen() {
        Run x = new Run();
        x.feedText("noise 7;noise 8;noise 9;");
        Check.same("text", x.text(8), 1);
        Check.same("the bytes behind are gone, too", x.count(11), 0);
        Check.same("there is none any more", x.text(1), -2);
        x.feedText("seed 1;##");
        Check.same("text of none of them", x.text(0), 0);
        Check.same("they are gone", x.count(11), 0);
        Check.same("nothing told", x.count(7), 0);
        Run fault = new Run();
        fault.feedText("noise 7;oh;noise 9;");
        Check.same("text with a fault", fault.text(11), -1);
        Check.same("empty with a fault, too", fault.count(11), 0);
        Check.same("there is none any more", fault.text(1), -2);
        Check.same("a feed is the first one", fault.feedText("seed 1;"), 20);
        Check.same("text of it", fault.text(7), 1);
    }

    /** "no CHANNELS, no RANGES, no IMAGE"; nothing can be undone behind it. */
    private static void whatGoes() {
        for (String text : new String[] {"", "bird z 1;", TOLD}) {
            Run x = full();
            Check.yes("text", x.tell(text) >= 0);
            Check.same("no channels", x.count(2), 0);
            Check.same("no channel 0", x.channel(0, 0), -1);
            Check.same("no ranges", x.count(6), 0);
            Check.same("nothing to undo", x.count(12), 0);
            Check.same("no undo", x.undo(), -1);
            Check.same("no image", x.back(), -1);
            Check.same("as of a new object", x.telling(), Run.of(text).telling());
        }
    }

    private static void allTheOldLinesGo() {
        Run x = full();
        Check.same("text", x.tell("bird b 3;"), 1);
        int[] due = {1, 0, 0, 0, 0, 0, 0, 0, 15, 5, 29, 0, 0};
        for (int what = 0; what < due.length; what++) {
            Check.same("count " + what, x.count(what), due[what]);
        }
        int[] bird = {3, -2, -2, -2, -2, -2, -2, 0, -2, -2, -2};
        for (int what = 0; what < bird.length; what++) {
            Check.same("bird " + what, x.bird(0, what), bird[what]);
        }
        Check.same("no old name", x.named(Check.packed("a")), -1);
        Check.same("no home", x.measure(0), -2);
        Check.same("sends none", x.bit(0, 0), 0);
        // Nor does the text of two ahead shine through.
        Check.same("text", x.tell("bird c 4;"), 1);
        Check.same("as of a new object", x.telling(), Run.of("bird c 4;").telling());
        Check.same("text", x.tell(TOLD), 12);
        Check.same("all can be told again", x.telling(), Run.of(TOLD).telling());
        Check.same("text", x.tell("noise 99;"), 1);
        Check.same("no old seed", x.sample(0, 0), Check.noise(0, 99, 0));
        Check.same("text", x.tell("noise 99;"), 1);
        Check.same("no seed of two ahead", x.sample(0, 0), Check.noise(0, 99, 0));
        Check.same("text", x.tell(""), 0);
        Check.same("no old noise", x.sample(0, 0), 0);
    }

    private static void aFaultLeavesAllElse() {
        for (String text : new String[] {"oh", "bird b 1;bird c 1;heard b 1 1 1 1;noise 8;seed 1;ratio 99;first 2;second 2;"
            + "home 2 2 2 2;place b 1 1 1;send b 1 1;", ";", "bird a 31;"}) {
            Run x = full();
            String was = x.telling();
            x.feedText(text + "?");
            Check.same("with a fault", x.text(text.length() + 1), -1);
            Check.same("all else stays", x.telling(), was);
            Check.same("a second fault", x.tell("bird a 1;bird a 1;"), -1);
            Check.same("all else stays", x.telling(), was);
            Check.same("the image stays", x.back(), 1);
        }
        Run x = new Run();
        String was = x.telling();
        Check.same("a first text with a fault", x.tell("bird a 1;noise 100;"), -1);
        Check.same("all is as of a new object", x.telling(), was);
    }

    /** "-2, and the TAPE stays: there are not so many". */
    private static void notSoMany() {
        Run x = full();
        Check.leaves(x, "more than none", -2, o -> o.text(1));
        x.feedText("noise 9;noise 9;");
        Check.leaves(x, "one more than there are", -2, o -> o.text(21));
        Check.leaves(x, "many more", -2, o -> o.text(Integer.MAX_VALUE));
        Check.same("the tape stays", x.count(11), 20);
        Check.same("its first ones", x.text(8), 1);
        Check.same("they are told", x.count(7), 9);
        Run full = new Run();
        full.feedText(" ".repeat(700));
        Check.same("more than 700", full.text(701), -2);
        Check.same("just 700", full.text(700), 0);
        Run all = new Run();
        all.feedText("noise 9;");
        Check.same("all of the tape", all.text(20), 1);
    }

    private static void below0() {
        Run x = full();
        x.feedText("noise 9;");
        for (int n : new int[] {-1, -2, -20, Integer.MIN_VALUE}) {
            Check.leaves(x, "text " + n, -2, o -> o.text(n));
        }
        Check.same("the tape stays", x.text(8), 1);
        Check.same("text 0 of an empty tape", x.text(0), 0);
        Check.same("text -1 of an empty tape", x.text(-1), -2);
    }
}
