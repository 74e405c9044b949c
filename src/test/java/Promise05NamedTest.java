/** Promise 5: named. */
public final class Promise05NamedTest {
    public static void main(String[] args) {
        itsNumber();
        fiveBitsEach();
        noneSuch();
        ofTheText();
        Check.end("Promise05NamedTest");
    }

    private static void itsNumber() {
        Run x = Run.of("bird e 0;bird d 0;bird zzzzzz 0;bird aaaaaa 0;bird az 0;");
        Check.same("e", x.named(Check.packed("e")), 0);
        Check.same("d", x.named(Check.packed("d")), 1);
        Check.same("zzzzzz", x.named(Check.packed("zzzzzz")), 2);
        Check.same("aaaaaa", x.named(Check.packed("aaaaaa")), 3);
        Check.same("az", x.named(Check.packed("az")), 4);
    }

    /** "5 bits each (a is 1; the first one highest of six, 0 behind the last one)". */
    private static void fiveBitsEach() {
        Run x = Run.of("bird a 0;bird abcdef 0;bird z 0;bird ba 0;bird zzzzzz 0;");
        Check.same("a", x.named(1 << 25), 0);
        Check.same("abcdef", x.named(1 << 25 | 2 << 20 | 3 << 15 | 4 << 10 | 5 << 5 | 6), 1);
        Check.same("z", x.named(26 << 25), 2);
        Check.same("ba", x.named(2 << 25 | 1 << 20), 3);
        Check.same("zzzzzz", x.named(900557658), 4);
        for (int length = 1; length <= 6; length++) {
            String name = "qwerty".substring(0, length);
            Check.same(name, Run.of("bird o 0;bird " + name + " 0;").named(Check.packed(name)), 1);
        }
    }

    private static void noneSuch() {
        Run x = Run.of("bird a 0;bird abcdef 0;bird zzzzzz 0;");
        for (String name : new String[] {"b", "aa", "abcde", "abcdf", "zzzzz", "bird", "heard", "z"}) {
            Check.same(name, x.named(Check.packed(name)), -1);
        }
        for (int letters : new int[] {0, -1, 1, 1 << 20, 1 << 24, 1 << 30, 1 << 31, 1 << 25 | 1, 1 << 25 | 1 << 30,
            1 << 25 | 1 << 31, Integer.MIN_VALUE, Integer.MAX_VALUE, 900557657, 900557659}) {
            Check.same("letters " + letters, x.named(letters), -1);
        }
        Run none = Run.of("noise 1;");
        Check.same("without birds", none.named(Check.packed("a")), -1);
        Check.same("without birds, no letters", none.named(0), -1);
        Check.same("no letters, two birds", Run.of("bird a 0;bird b 0;").named(0), -1);
    }

    private static void ofTheText() {
        Run x = Run.of("bird a 0;bird b 0;");
        x.tell("bird c 0;bird b 0;?");
        Check.same("behind a fault a is one", x.named(Check.packed("a")), 0);
        Check.same("behind a fault b is one", x.named(Check.packed("b")), 1);
        Check.same("behind a fault c is none", x.named(Check.packed("c")), -1);
        x.tell("bird c 0;bird b 0;");
        Check.same("behind a text a is none", x.named(Check.packed("a")), -1);
        Check.same("behind a text b is one", x.named(Check.packed("b")), 1);
        Check.same("behind a text c is one", x.named(Check.packed("c")), 0);
    }
}
