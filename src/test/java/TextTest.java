/** Promises 1 to 6: a new object, the tape, the text and its faults, birds by name and as told. */
public final class TextTest {
    private static final String BLANK = " ";

    public static void main(String[] args) {
        aNewObject();
        theTape();
        fineTexts();
        tokens();
        wrongOrder();
        tooMuch();
        toldAlready();
        notTold();
        whatAFaultLeaves();
        whatATextForgets();
        birds();
        Check.end("TextTest");
    }

    private static void aNewObject() {
        BirdCodes x = new BirdCodes();
        int[] due = {0, 0, 0, 0, 0, 0, 0, 0, 15, 5, 29, 0, 0, -1};
        for (int what = 0; what < due.length; what++) {
            Check.same("new count " + what, x.count(what), due[what]);
        }
        Check.same("new count -1", x.count(-1), -1);
        Check.same("new fault 0", x.fault(0), 0);
        Check.same("new fault 1", x.fault(1), -1);
        Check.same("new undo", x.undo(), -1);
        Check.same("new back", x.back(), -1);
        Check.same("new named", x.named(Check.packed("a")), -1);
        Check.same("new named 0", x.named(0), -1);
        Check.same("new text 0", x.text(0), 0);
        Check.same("new home", x.measure(0), -2);
    }

    private static void theTape() {
        BirdCodes x = new BirdCodes();
        for (int k = 1; k <= 35; k++) {
            Check.same("feed " + k, x.feed(0x20202020, 0x20202020, 0x20202020, 0x20202020, 0x20202020), 20 * k);
        }
        Check.same("feed 36", x.feed(0, 0, 0, 0, 0), -1);
        Check.same("count 11", x.count(11), 700);
        Check.same("text 701", x.text(701), -2);
        Check.same("text -1", x.text(-1), -2);
        Check.same("text least", x.text(Integer.MIN_VALUE), -2);
        Check.same("text most", x.text(Integer.MAX_VALUE), -2);
        Check.same("tape stays", x.count(11), 700);
        Check.same("text 700", x.text(700), 0);
        Check.same("tape empty", x.count(11), 0);
        Check.same("text 1 of none", x.text(1), -2);
        // The highest byte of each number first: "bird" " abc" " 17;" "\nbir" "d z 4;" less its end.
        Check.same("feed", x.feed(0x62697264, 0x20616263, 0x2031373b, 0x0a626972, 0x64207a20), 20);
        Check.same("feed", x.feed(0x343bffff, 0, 0, 0, 0), 40);
        Check.same("text", x.text(22), 2);
        Check.same("bytes behind n are gone", x.count(11), 0);
        Check.same("named abc", x.named(Check.packed("abc")), 0);
        Check.same("delay abc", x.bird(0, 0), 17);
        Check.same("named z", x.named(Check.packed("z")), 1);
        Check.same("delay z", x.bird(1, 0), 4);
    }

    private static void fineTexts() {
        Check.same("nothing", Check.tell(new BirdCodes(), ""), 0);
        Check.same("blanks", Check.tell(new BirdCodes(), "  \n \n"), 0);
        Check.same("no blank between", Check.tell(new BirdCodes(), "bird a3;heard a0 5 0 1;noise7;"), 3);
        Check.same("blanks all over", Check.tell(new BirdCodes(), "\n bird\na\n3 ;\n\n drift a\n1; "), 2);
        Check.same("leading noughts", Check.tell(new BirdCodes(), "seed 000000000000000000099999;"), 1);
        Check.same("any order", Check.tell(new BirdCodes(), "ratio 10;home 1 2 3 4;second 1;bird zzzzzz 30;"
            + "noise 99;place zzzzzz 15 15 15;seed 0;first 31;fade zzzzzz 199;"), 9);
        BirdCodes x = Check.of("noise 12;ratio 99;first 31;second 1;seed 4;bird a 1;bird b 2;"
            + "send a 3 63;send b 0 0;send a 1 1;");
        Check.same("noise", x.count(7), 12);
        Check.same("ratio", x.count(8), 99);
        Check.same("first", x.count(9), 31);
        Check.same("second", x.count(10), 1);
        Check.same("sends", x.count(4), 3);
        Check.same("birds", x.count(0), 2);
        Check.same("heard", x.count(1), 0);
        Check.same("fault", x.fault(0), 0);
        Check.same("fault place", x.fault(1), -1);
        Check.same("fault 2", x.fault(2), -1);
        Check.same("fault -1", x.fault(-1), -1);
    }

    private static void tokens() {
        Check.faultOf("bird a 3;\t", 1, 9);
        Check.faultOf("bird A 3;", 1, 5);
        Check.faultOf("bird a -3;", 1, 7);
        Check.faultOf("bird a 3.", 1, 8);
        Check.faultOf("bird abcdefg 3;", 1, 5);
        Check.faultOf("birdabcd a 3;", 1, 0);
        Check.faultOf("bird a 3;\u00e9", 1, 9);
        Check.faultOf("bird a 3;\r\nnoise 3;", 1, 9);
        Check.faultOf("bird `a 3;", 1, 5);
        Check.faultOf("bird {a 3;", 1, 5);
        Check.faultOf("noise /;", 1, 6);
        Check.faultOf("noise :;", 1, 6);
        Check.faultOf("noise \0;", 1, 6);
        // A number and a word need no blank between them.
        Check.faultOf("bird a 3b;", 1, 8);
        Check.faultOf("birda 3;", 1, 0);
    }

    private static void wrongOrder() {
        Check.faultOf(";", 1, 0);
        Check.faultOf("bird a 3;;", 1, 9);
        Check.faultOf("3;", 1, 0);
        Check.faultOf("a 3;", 1, 0);
        Check.faultOf("bird 3 a;", 1, 5);
        Check.faultOf("bird seed 3;", 1, 5);
        Check.faultOf("bird bird 3;", 1, 5);
        Check.faultOf("bird a;", 1, 6);
        Check.faultOf("bird a 3 4;", 1, 9);
        Check.faultOf("bird a b;", 1, 7);
        Check.faultOf("bird a 3 bird b 4;", 1, 9);
        Check.faultOf("home 1 2 3;", 1, 10);
        Check.faultOf("noise;", 1, 5);
        Check.faultOf("bird", 1, 4);
        Check.faultOf("bird  ", 1, 6);
        Check.faultOf("bird a", 1, 6);
        Check.faultOf("bird a 3", 1, 8);
        Check.faultOf("bird a 3 \n ", 1, 11);
        Check.faultOf("home 1 2 3", 1, 10);
        Check.faultOf("bird a 3;heard ratio 1 1 1 1;", 1, 15);
        BirdCodes x = new BirdCodes();
        Check.feed(x, "bird a 30;");
        Check.same("cut in a line", x.text(8), -1);
        Check.same("cut in a line: fault", x.fault(0), 1);
        Check.same("cut in a line: place", x.fault(1), 8);
    }

    private static void edge(String before, int least, int most, String after) {
        if (least > 0) {
            Check.faultOf(before + (least - 1) + after, 2, before.length());
        }
        Check.of(before + least + after);
        Check.of(before + most + after);
        Check.faultOf(before + (most + 1) + after, 2, before.length());
        Check.faultOf(before + "4294967296" + after, 2, before.length());
        Check.faultOf(before + "99999999999999999999999999" + after, 2, before.length());
    }

    private static void tooMuch() {
        edge("bird a ", 0, 30, ";");
        edge("bird a 0;heard a ", 0, 61, " 1 1 1;");
        edge("bird a 0;heard a 1 ", 0, 14, " 1 1;");
        edge("bird a 0;heard a 1 1 ", 0, 15, " 1;");
        edge("bird a 0;heard a 1 1 1 ", 1, 9, ";");
        edge("bird a 0;drift a ", 1, 20, ";");
        edge("bird a 0;fade a ", 1, 199, ";");
        edge("bird a 0;send a ", 0, 3, " 1;");
        edge("bird a 0;send a 1 ", 0, 63, ";");
        edge("bird a 0;place a ", 0, 15, " 1 1;");
        edge("bird a 0;place a 1 ", 0, 15, " 1;");
        edge("bird a 0;place a 1 1 ", 0, 15, ";");
        edge("home ", 0, 15, " 1 1 1;");
        edge("home 1 ", 0, 15, " 1 1;");
        edge("home 1 1 ", 0, 15, " 1;");
        edge("home 1 1 1 ", 0, 20, ";");
        edge("first ", 1, 31, ";");
        edge("second ", 1, 31, ";");
        edge("noise ", 0, 99, ";");
        edge("seed ", 0, 99999, ";");
        edge("ratio ", 10, 99, ";");
        Check.of("bird a 0;bird b 0;bird c 0;bird d 0;bird e 0;");
        Check.faultOf("bird a 0;bird b 0;bird c 0;bird d 0;bird e 0; bird f 0;", 2, 46);
        // The sixth one is refused at its word, ahead of its name.
        Check.faultOf("bird a 0;bird b 0;bird c 0;bird d 0;bird e 0;bird a 99;", 2, 45);
        StringBuilder sends = new StringBuilder("bird a 0;bird b 0;");
        for (int k = 0; k < 10; k++) {
            sends.append("send ").append(k % 2 == 0 ? 'a' : 'b').append(" 0 0;");
        }
        Check.of(sends.toString());
        Check.faultOf(sends + "send b 0 0;", 2, sends.length());
        Check.faultOf(sends + "send x 9 9;", 2, sends.length());
        Check.faultOf("bird a 31;heard b", 2, 7);
    }

    private static void toldAlready() {
        String two = "bird a 0;bird b 0;";
        Check.faultOf(two + "bird a 0;", 3, 23);
        Check.faultOf(two + "bird b 99;", 3, 23);
        Check.faultOf(two + "heard a 1 1 1 1;heard b 1 1 1 1;heard a 1 1 1 1;", 3, 56);
        Check.faultOf(two + "drift a 1;drift b 1;drift b 0;", 3, 44);
        Check.faultOf(two + "fade a 1;fade b 1;fade b 1;", 3, 41);
        Check.faultOf(two + "place a 0 0 0;place b 0 0 0;place a 0 0 0;", 3, 52);
        Check.faultOf("home 0 0 0 0;home 0 0 0 0;", 3, 13);
        Check.faultOf("first 5;first 5;", 3, 8);
        Check.faultOf("second 29; second 29;", 3, 11);
        Check.faultOf("noise 0;noise", 3, 8);
        Check.faultOf("seed 0;seed 0;", 3, 7);
        Check.faultOf("ratio 15;ratio 15;", 3, 9);
        Check.of(two + "send a 0 0;send a 0 0;");
    }

    private static void notTold() {
        for (String word : new String[] {"heard", "drift", "fade", "send", "place"}) {
            Check.faultOf("bird a 0;" + word + " b 1 1 1 1;", 4, 10 + word.length());
            Check.faultOf(word + " a 1 1 1 1;bird a 0;", 4, 1 + word.length());
        }
        Check.faultOf("bird a 0;heard aa 1 1 1 1;", 4, 15);
    }

    private static void whatAFaultLeaves() {
        BirdCodes x = Check.of("bird a 7;heard a 3 7 0 5;home 1 1 1 1;noise 3;ratio 20;");
        Check.same("range", x.range(0, 50), -1);
        Check.same("lock", x.lock(0, 0), 0);
        Check.same("keep", x.keep(), 1);
        int sampled = x.sample(5, 0);
        Check.same("fault", Check.tell(x, "bird b 1;bird c 1;noise 8;oh"), -1);
        Check.same("fault(0)", x.fault(0), 1);
        Check.same("fault(1)", x.fault(1), 26);
        Check.same("tape", x.count(11), 0);
        Check.same("birds stay", x.count(0), 1);
        Check.same("named stays", x.named(Check.packed("a")), 0);
        Check.same("noise stays", x.count(7), 3);
        Check.same("ratio stays", x.count(8), 20);
        Check.same("channels stay", x.count(2), 1);
        Check.same("ranges stay", x.count(6), 1);
        Check.same("undo stays", x.count(12), 2);
        Check.same("samples stay", x.sample(5, 0), sampled);
        Check.same("image stays", x.back(), 1);
        Check.same("text refused", x.text(1), -2);
        Check.same("fault of the one before", x.fault(0), 1);
        Check.same("place of the one before", x.fault(1), 26);
        Check.same("fine", x.text(0), 0);
        Check.same("no fault", x.fault(0), 0);
        Check.same("no place", x.fault(1), -1);
    }

    private static void whatATextForgets() {
        BirdCodes x = Check.of("bird a 7;heard a 3 7 0 5;drift a 2;fade a 100;send a 1 1;place a 1 2 3;"
            + "home 1 1 1 1;noise 3;seed 9;ratio 20;first 3;second 7;");
        x.range(0, 50);
        x.follow(1);
        x.keep();
        Check.same("text", Check.tell(x, "bird a 3;"), 1);
        int[] due = {1, 0, 0, 0, 0, 0, 0, 0, 15, 5, 29, 0, 0};
        for (int what = 0; what < due.length; what++) {
            Check.same("count " + what + " behind a text", x.count(what), due[what]);
        }
        int[] bird = {3, -2, -2, -2, -2, -2, -2, 0, -2, -2, -2};
        for (int what = 0; what < bird.length; what++) {
            Check.same("bird " + what + " behind a text", x.bird(0, what), bird[what]);
        }
        Check.same("no image", x.back(), -1);
        Check.same("nothing undone", x.undo(), -1);
        Check.same("no home", x.measure(0), -2);
        Check.same("no range", x.range(0, 1), -1);
        // The text two ahead doesn't shine through either.
        Check.same("text", Check.tell(x, "bird z 4;"), 1);
        Check.same("no old name", x.named(Check.packed("a")), -1);
        for (int what = 0; what < due.length; what++) {
            Check.same("count " + what + " behind two texts", x.count(what), due[what]);
        }
        for (int what = 0; what < bird.length; what++) {
            Check.same("bird " + what + " behind two texts", x.bird(0, what), what == 0 ? 4 : bird[what]);
        }
        Check.same("no home behind two texts", x.measure(0), -2);
        Check.same("sends none", x.bit(0, 0), 0);
        for (int k = 0; k < 3; k++) {
            Check.same("all can be told again", Check.tell(x, "first 3;second 7;noise 1;seed 1;ratio 11;home 1 1 1 1;"
                + "bird a 1;heard a 1 1 1 1;drift a 1;fade a 1;place a 1 1 1;"), 11);
        }
        samplesAreHeardAnew();
    }

    private static void samplesAreHeardAnew() {
        BirdCodes x = Check.of("bird a 0;heard a 0 7 0 9;");
        Check.same("as told", x.sample(0, 0), 90);
        Check.same("text", Check.tell(x, "bird a 0;heard a 0 7 4 3;"), 2);
        Check.same("told anew", x.sample(0, 0), 0);
        Check.same("told anew", x.sample(0, 1), 30);
        Check.same("text", Check.tell(x, "noise 99;seed 5;"), 2);
        int noise = x.sample(0, 0);
        Check.same("a seed", Check.of("noise 99;seed 5;").sample(0, 0), noise);
        Check.same("text", Check.tell(x, "noise 99;"), 1);
        Check.same("no seed", x.sample(0, 0), Check.of("noise 99;").sample(0, 0));
        Check.same("it was another one", x.sample(0, 0) != noise ? 1 : 0, 1);
        Check.same("text", Check.tell(x, "noise 99;seed 5;"), 2);
        Check.same("text", Check.tell(x, ""), 0);
        Check.same("nothing", x.sample(0, 0), 0);
        Check.same("text", Check.tell(x, "noise 99;"), 1);
        Check.same("no seed of two ahead", x.sample(0, 0), Check.of("noise 99;").sample(0, 0));
    }

    private static void birds() {
        BirdCodes x = Check.of("bird abcdef 30;bird b 0;bird z 5;heard b 61 14 15 9;heard z 0 0 0 1;"
            + "drift z 20;fade abcdef 199;send z 0 0;send z 1 1;place b 15 0 7;");
        Check.same("abcdef", x.named(Check.packed("abcdef")), 0);
        Check.same("b", x.named(2 << 25), 1);
        Check.same("z", x.named(26 << 25), 2);
        Check.same("none", x.named(Check.packed("bb")), -1);
        Check.same("a prefix", x.named(Check.packed("abcde")), -1);
        Check.same("0", x.named(0), -1);
        Check.same("-1", x.named(-1), -1);
        Check.same("low letter", x.named(2), -1);
        int[][] due = {
            {30, -2, -2, -2, -2, -2, 199, 0, -2, -2, -2},
            {0, 61, 14, 15, 9, -2, -2, 0, 15, 0, 7},
            {5, 0, 0, 0, 1, 20, -2, 2, -2, -2, -2},
        };
        for (int bird = 0; bird < due.length; bird++) {
            for (int what = 0; what < due[bird].length; what++) {
                Check.same("bird " + bird + BLANK + what, x.bird(bird, what), due[bird][what]);
            }
            Check.same("what 11", Check.thrown(x, bird, 11), 2);
            Check.same("what -1", Check.thrown(x, bird, -1), 2);
            Check.same("what least", Check.thrown(x, bird, Integer.MIN_VALUE), 2);
        }
        BirdCodes least = Check.of("bird a 1;drift a 1;fade a 1;");
        Check.same("drift 1", least.bird(0, 5), 1);
        Check.same("fade 1", least.bird(0, 6), 1);
        Check.same("bird 3", Check.thrown(x, 3, 0), 1);
        Check.same("bird -1", Check.thrown(x, -1, 0), 1);
        Check.same("both wrong", Check.thrown(x, 3, 11), 1);
        Check.same("both right", Check.thrown(x, 2, 10), 0);
    }
}
