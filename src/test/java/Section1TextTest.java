/** Section 1, that promise 3 asks for: what a TEXT may say, and its FAULTS. */
public final class Section1TextTest {
    private static final String[] WORDS = {"bird", "heard", "drift", "fade", "send", "place", "home", "first",
        "second", "noise", "seed", "ratio"};
    /** A line of each word, its numbers in place of N. */
    private static final String[] LINES = {"bird w N;", "heard w N N N N;", "drift w N;", "fade w N;", "send w N N;",
        "place w N N N;", "home N N N N;", "first N;", "second N;", "noise N;", "seed N;", "ratio N;"};
    private static final String TEN_SENDS = "send a 0 0;send b 1 1;".repeat(5);
    private static final String FIVE = "bird a 0;bird b 0;bird c 0;bird d 0;bird e 0;";

    public static void main(String[] args) {
        everyByte();
        blanks();
        wordsOfLetters();
        wordsOfTheLanguage();
        theFormOfEachLine();
        anyOrder();
        numbers();
        defaults();
        aSixthBird();
        anEleventhSend();
        toldAlready();
        notToldAhead();
        theFirstAlongTheText();
        ofOnePlaceTheLeast();
        ifMoreMustCome();
        the700thByte();
        Check.end("Section1TextTest");
    }

    // ---- tokens: fault 1 ----

    /** "Words: small letters; N: digits. Blanks 10, 32." Any other byte but ';' is a TOKEN that is none. */
    private static void everyByte() {
        for (int sign = 0; sign <= 255; sign++) {
            String text = "noise" + (char) sign + "3;";
            boolean letter = sign >= 'a' && sign <= 'z';
            if (sign == 10 || sign == 32) {
                Check.fine(text, 1);
            } else if (sign >= '0' && sign <= '9') {
                Check.fine(text, 1);
                Check.same("noise told", Run.of(text).count(7), 10 * (sign - '0') + 3);
            } else {
                Check.faultOf(text, 1, letter ? 0 : 5);
            }
            if (!letter && sign != 10 && sign != 32 && sign != ';' && (sign < '0' || sign > '9')) {
                Check.faultOf((char) sign + "noise 3;", 1, 0);
                Check.faultOf("noise 3" + (char) sign + ";", 1, 7);
                Check.faultOf("noise 3;" + (char) sign, 1, 8);
                Check.faultOf("bird a" + (char) sign + "b 3;", 1, 6);
            }
        }
    }

    private static void blanks() {
        Check.fine(" ", 0);
        Check.fine("\n", 0);
        Check.fine("  \n \n", 0);
        Check.fine("\n bird\na\n3 ;\n\n drift a\n1; \n", 2);
        Check.fine("bird a3;heard a0 5 0 1;noise7;", 3);
        Check.fine("bird a 3;drift a 1;", 2);
        // Neither a word nor a number goes on behind a blank.
        Check.faultOf("no ise 3;", 1, 0);
        Check.faultOf("noise 3 4;", 1, 8);
        // Letters and digits need none between them, but letters and letters do.
        Check.faultOf("birda 3;", 1, 0);
        Check.faultOf("bird a 3b;", 1, 8);
        Check.faultOf("bird a1b 3;", 1, 7);
    }

    /** "W: one of 1 .. 6 letters". */
    private static void wordsOfLetters() {
        String letters = "qwertyuiopasdfghjklzxcvbnm";
        for (int length = 1; length <= 26; length++) {
            String name = letters.substring(0, length);
            if (length <= 6) {
                Check.fine("bird " + name + " 3;drift " + name + " 4;", 2);
            } else {
                Check.faultOf("bird " + name + " 3;", 1, 5);
                Check.faultOf("bird a 3;heard " + name + " 1 1 1 1;", 1, 15);
                Check.faultOf(name + " 3;", 1, 0);
            }
        }
        // Of seven letters it is none, though its first six are a name.
        Check.faultOf("bird abcdef 3;fade abcdefg 4;", 1, 19);
        Check.faultOf("bird abcdefg 3;fade abcdefg 4;", 1, 5);
        Check.fine("bird a 1;bird z 1;bird az 1;bird zzzzzz 1;", 4);
    }

    /** "none of those of the language". */
    private static void wordsOfTheLanguage() {
        for (String word : WORDS) {
            Check.faultOf("bird " + word + " 3;", 1, 5);
            Check.faultOf("bird a 3;drift " + word + " 3;", 1, 15);
            Check.fine("bird " + word.substring(1) + " 3;", 1);
            Check.fine("bird " + word.substring(0, word.length() - 1) + " 3;", 1);
            if (word.length() < 6) {
                Check.fine("bird " + word + "s 3;", 1);
                Check.faultOf(word + "s 3;", 1, 0);
            }
            Check.faultOf(word.substring(1) + " 3;", 1, 0);
        }
        Check.faultOf("a 3;", 1, 0);
        Check.faultOf("3;", 1, 0);
        Check.faultOf(";", 1, 0);
    }

    private static String line(int k) {
        return LINES[k].replace("N", k == 11 ? "10" : "1");
    }

    /** A TOKEN that can't stand there: each token of each line in another's place, one too few, one too many. */
    private static void theFormOfEachLine() {
        for (int k = 0; k < LINES.length; k++) {
            String ahead = k == 0 || k > 5 ? "" : "bird w 1;";
            String[] tokens = line(k).replace(";", " ;").split(" ");
            Check.fine(ahead + String.join(" ", tokens), ahead.isEmpty() ? 1 : 2);
            for (int t = 0; t < tokens.length; t++) {
                oneToken(ahead, tokens, t);
            }
            String whole = ahead + line(k);
            int end = whole.length() - 1;
            String number = tokens[tokens.length - 2];
            Check.faultOf(whole.substring(0, end) + " " + number + ";", 1, end + 1);
            String less = whole.substring(0, end - 1 - number.length());
            Check.faultOf(less + ";", 1, less.length());
        }
        Check.fine("bird a 3;noise 3;", 2);
        Check.faultOf("bird a 3;;", 1, 9);
        Check.faultOf("bird a 3;noise 3;;", 1, 17);
        Check.faultOf("bird a 3 bird b 4;", 1, 9);
        Check.faultOf("bird 3 a;", 1, 5);
        Check.faultOf("bird a b;", 1, 7);
    }

    /** With another token in place of one of a line the fault is at it. */
    private static void oneToken(String ahead, String[] tokens, int t) {
        int at = ahead.length();
        for (int k = 0; k < t; k++) {
            at += tokens[k].length() + 1;
        }
        boolean number = Character.isDigit(tokens[t].charAt(0));
        for (String other : new String[] {"7", ";", "w", ",", "noise", "abcdefg"}) {
            boolean alike = other.equals(tokens[t]) || number && other.equals("7") || t == 0 && other.equals("noise");
            if (!alike) {
                String[] changed = tokens.clone();
                changed[t] = other;
                Check.faultOf(ahead + String.join(" ", changed), 1, at);
            }
        }
        if (t > 0) {
            // The text ends ahead of it.
            String cut = (ahead + String.join(" ", tokens)).substring(0, at);
            Check.faultOf(cut, 1, at);
            Check.faultOf(cut.trim(), 1, at - 1);
        }
    }

    private static void anyOrder() {
        Check.fine("ratio 10;home 1 2 3 4;second 1;bird zzzzzz 30;noise 99;place zzzzzz 15 15 15;seed 0;first 31;"
            + "fade zzzzzz 199;", 9);
        Run ahead = Run.of("first 9;second 3;noise 5;seed 8;ratio 44;bird a 4;heard a 1 1 1 1;bird b 3;");
        Run behind = Run.of("bird a 4;bird b 3;heard a 1 1 1 1;ratio 44;seed 8;noise 5;second 3;first 9;");
        Check.same("in any order the same", ahead.telling(), behind.telling());
    }

    // ---- numbers: fault 2 ----

    private static void edge(String before, int least, int most, String behind) {
        if (least > 0) {
            Check.faultOf(before + (least - 1) + behind, 2, before.length());
            Check.faultOf(before + "0" + behind, 2, before.length());
            Check.faultOf(before + "000" + behind, 2, before.length());
        }
        int lines = (int) (before + behind).chars().filter(c -> c == ';').count();
        Check.fine(before + least + behind, lines);
        Check.fine(before + most + behind, lines);
        Check.fine(before + "00000000000000000000" + most + behind, lines);
        for (String more : new String[] {"" + (most + 1), "000000000" + (most + 1), "" + 10 * (most + 1), "2147483647",
            "2147483648", "4294967295", "4294967296", "" + (4294967296L + most), "18446744073709551616",
            "18446744073709551626", "99999999999999999999999999"}) {
            Check.faultOf(before + more + behind, 2, before.length());
        }
    }

    private static void numbers() {
        edge("bird a ", 0, 30, ";");
        edge("bird a 0;heard a ", 0, 61, " 1 1 1;");
        edge("bird a 0;heard a 1 ", 0, 14, " 1 1;");
        edge("bird a 0;heard a 1 1 ", 0, 15, " 1;");
        edge("bird a 0;heard a 1 1 1 ", 1, 9, ";");
        edge("bird a 0;drift a ", 1, 20, ";");
        edge("bird a 0;fade a ", 1, 199, ";");
        edge("bird a 0;send a ", 0, 3, " 1;");
        edge("bird a 0;send a 1 ", 0, 63, ";");
        edge("bird a 0;place a ", 0, 15, " 1 1;");
        edge("bird a 0;place a 1 ", 0, 15, " 1;");
        edge("bird a 0;place a 1 1 ", 0, 15, ";");
        edge("home ", 0, 15, " 1 1 1;");
        edge("home 1 ", 0, 15, " 1 1;");
        edge("home 1 1 ", 0, 15, " 1;");
        edge("home 1 1 1 ", 0, 20, ";");
        edge("first ", 1, 31, ";");
        edge("second ", 1, 31, ";");
        edge("noise ", 0, 99, ";");
        edge("seed ", 0, 99999, ";");
        edge("ratio ", 10, 99, ";");
    }

    /** "MASKS (5, 29). noise (0). seed (0). ratio (15)." */
    private static void defaults() {
        Run none = Run.of("bird a 0;");
        Check.same("noise", none.count(7), 0);
        Check.same("ratio", none.count(8), 15);
        Check.same("MASK first", none.count(9), 5);
        Check.same("MASK second", none.count(10), 29);
        Check.same("as told so", none.telling(),
            Run.of("bird a 0;first 5;second 29;noise 0;seed 0;ratio 15;").telling());
        Check.same("seed", Run.of("noise 99;").sample(7, 0), Check.noise(7, 99, 0));
        Run told = Run.of("noise 12;ratio 99;first 31;second 1;seed 4;");
        Check.same("noise told", told.count(7), 12);
        Check.same("ratio told", told.count(8), 99);
        Check.same("MASK first told", told.count(9), 31);
        Check.same("MASK second told", told.count(10), 1);
        Check.same("seed told", told.sample(7, 0), Check.noise(11, 12, 0));
    }

    /** "BIRDS, at most 5", "numbered from 0 on as they come"; "a sixth bird (at the word of the LINE)". */
    private static void aSixthBird() {
        Run five = Run.of(FIVE);
        Check.same("five", five.count(0), 5);
        for (int b = 0; b < 5; b++) {
            Check.same("number", five.named(Check.packed("" + "abcde".charAt(b))), b);
        }
        Check.faultOf(FIVE + "bird f 0;", 2, 45);
        Check.faultOf(FIVE + " \n bird f 0;", 2, 48);
        Check.faultOf(FIVE + "drift a 1;bird f 0;", 2, 55);
        // At its word it is a fault already, whatever is behind.
        Check.faultOf(FIVE + "bird a 99;", 2, 45);
        Check.faultOf(FIVE + "bird", 2, 45);
        Check.faultOf(FIVE + "bird seed", 2, 45);
        Check.fine(FIVE + "heard e 1 1 1 1;", 6);
    }

    /** "send, at most 10"; "an eleventh send (at the word of the LINE)". */
    private static void anEleventhSend() {
        String two = "bird a 0;bird b 0;";
        Run ten = Run.of(two + TEN_SENDS);
        Check.same("ten", ten.count(4), 10);
        Check.same("five of each", ten.bird(0, 7), 5);
        Check.same("ten of one", Run.of("bird a 0;" + "send a 3 63;".repeat(10)).bird(0, 7), 10);
        int at = two.length() + TEN_SENDS.length();
        Check.faultOf(two + TEN_SENDS + "send b 0 0;", 2, at);
        Check.faultOf(two + TEN_SENDS + "\nsend a 0 0;", 2, at + 1);
        Check.faultOf(two + TEN_SENDS + "send x 9 99;", 2, at);
        Check.faultOf(two + TEN_SENDS + "send", 2, at);
        Check.faultOf("bird a 0;" + "send a 3 63;".repeat(10) + "send a 3 63;", 2, 9 + 120);
        Check.fine(two + TEN_SENDS + "bird c 1;", 13);
    }

    // ---- told already: fault 3; not told ahead: fault 4 ----

    private static void toldAlready() {
        String two = "bird a 0;bird b 0;";
        Check.faultOf(two + "bird a 1;", 3, 23);
        Check.faultOf(two + "bird  b 1;", 3, 24);
        Check.faultOf(two + "bird b 99;", 3, 23);
        Check.fine(two + "bird aa 0;bird ab 0;", 4);
        String[] lines = {"heard W 1 1 1 1;", "heard W 0 0 0 9;", "drift W 1;", "drift W 20;", "fade W 1;", "fade W 199;",
            "place W 1 1 1;", "place W 0 0 0;"};
        for (String line : lines) {
            int word = line.indexOf('W');
            String a = line.replace('W', 'a');
            String b = line.replace('W', 'b');
            Check.fine(two + a + b, 4);
            Check.faultOf(two + a + a, 3, 18 + line.length() + word);
            Check.faultOf(two + a + b + a, 3, 18 + 2 * line.length() + word);
            Check.faultOf(two + a + b + b, 3, 18 + 2 * line.length() + word);
            // Already at W, whatever is behind.
            Check.faultOf(two + a + a.substring(0, word + 1), 3, 18 + line.length() + word);
            Check.faultOf(two + a + a.substring(0, word + 1) + " 100000;", 3, 18 + line.length() + word);
        }
        Check.fine(two + "heard a 1 1 1 1;drift a 1;fade a 1;place a 1 1 1;send a 1 1;send a 1 1;", 8);
        String[] once = {"home 0 0 0 0;", "home 1 2 3 4;", "first 5;", "first 31;", "second 29;", "second 1;", "noise 0;",
            "noise 1;", "seed 0;", "seed 1;", "ratio 15;", "ratio 10;"};
        for (String line : once) {
            String word = line.substring(0, line.indexOf(' '));
            Check.fine(line, 1);
            Check.faultOf(line + line, 3, line.length());
            Check.faultOf(line + " " + word, 3, line.length() + 1);
            Check.faultOf(line + "bird a 1;\n" + word + " 100000;", 3, line.length() + 10);
        }
        String all = "home 0 0 0 0;first 1;second 1;noise 0;seed 0;ratio 10;";
        Check.fine(all, 6);
        // Told already, however many others are between.
        for (String line : once) {
            String word = line.substring(0, line.indexOf(' '));
            Check.faultOf(all + line, 3, all.length());
            Check.faultOf(all + "bird a 1;" + word, 3, all.length() + 9);
        }
    }

    private static void notToldAhead() {
        for (String word : new String[] {"heard", "drift", "fade", "send", "place"}) {
            int at = word.length() + 1;
            Check.faultOf(word + " a 1 1 1 1;", 4, at);
            Check.faultOf(word + " a 1 1 1 1;bird a 0;", 4, at);
            Check.faultOf("bird a 0;" + word + " b 1 1 1 1;", 4, 9 + at);
            Check.faultOf("bird a 0;" + word + " aa 1 1 1 1;", 4, 9 + at);
            Check.faultOf("bird aa 0;" + word + " a 1 1 1 1;", 4, 10 + at);
            // Already at W, whatever is behind.
            Check.faultOf("bird a 0;" + word + " b", 4, 9 + at);
            Check.faultOf("bird a 0;" + word + " b ?", 4, 9 + at);
        }
        // Birds of the text ahead aren't told in this one.
        Run x = Run.of("bird a 0;bird b 0;");
        x.tell("bird b 0;drift a 1;");
        Check.same("told in another text", x.fault(0), 4);
        x.tell("bird a 0;?");
        Check.same("text", x.tell("drift a 1;"), -1);
        Check.same("told in a text with a fault", x.fault(0), 4);
    }

    // ---- which fault, and where ----

    private static void theFirstAlongTheText() {
        Check.faultOf("bird a 31;bird a 5;?", 2, 7);
        Check.faultOf("bird a 5;bird a 31;?", 3, 14);
        Check.faultOf("heard b 1 1 1 1;?", 4, 6);
        Check.faultOf("? heard b 1 1 1 1;noise 100;", 1, 0);
        Check.faultOf("noise 100", 2, 6);
        Check.faultOf("noise 100 100;", 2, 6);
        Check.faultOf("noise 1 100;", 1, 8);
        Check.faultOf("home 1 1 16 21", 2, 9);
        Check.faultOf("home 1 1 15 21", 2, 12);
        Check.faultOf("noise 1;noise 100;bird", 3, 8);
        Check.faultOf(FIVE + "bird a 31;drift x 1;", 2, 45);
        Check.faultOf("bird a 3;heard a 62 15 16 0;", 2, 17);
        Check.faultOf("bird a 3;heard a 61 15 16 0;", 2, 20);
        Check.faultOf("bird a 3;heard a 61 14 16 0;", 2, 23);
        Check.faultOf("bird a 3;heard a 61 14 15 0;", 2, 26);
    }

    /** A W that is none can't be told either: 1 goes ahead of 4. */
    private static void ofOnePlaceTheLeast() {
        for (String word : WORDS) {
            Check.faultOf("heard " + word + " 1 1 1 1;", 1, 6);
            Check.faultOf("send " + word + " 1 1;", 1, 5);
        }
        Check.faultOf("drift abcdefg 1;", 1, 6);
        Check.faultOf("place 17 1 1;", 1, 6);
        Check.faultOf("fade ; 1;", 1, 5);
    }

    /** "can't stand there (the length, if more must come)": blanks count. */
    private static void ifMoreMustCome() {
        for (String text : new String[] {"bird", "bird ", "bird  \n", "bird a", "bird a ", "bird a 3", "bird a 3 \n ",
            "bird a 3;noise", "home 1 2 3", "noise 1;seed 1 ", "bird a 3;send a 3", "first 3"}) {
            Check.faultOf(text, 1, text.length());
            // What is on the tape behind it isn't looked at.
            Run x = new Run();
            x.feedText(text + ";;;;");
            Check.same("text", x.text(text.length()), -1);
            Check.same("FAULT of " + text, x.fault(0), 1);
            Check.same("its place of " + text, x.fault(1), text.length());
        }
        Check.fine("bird a 3; ", 1);
    }

    private static void the700thByte() {
        Check.fine(" ".repeat(692) + "noise 9;", 1);
        Check.fine("noise 9;" + "\n".repeat(692), 1);
        Check.faultOf(" ".repeat(693) + "noise 9", 1, 700);
        Check.faultOf(" ".repeat(695) + "noise", 1, 700);
        Check.faultOf("noise 9;" + " ".repeat(691) + "?", 1, 699);
        Check.faultOf("noise " + "9".repeat(694), 2, 6);
        Check.fine("noise " + "0".repeat(692) + "9;", 1);
        Check.faultOf("a".repeat(700), 1, 0);
    }
}
