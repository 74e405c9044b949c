/** Promise 28: bad. What is BAD is told in section 3. */
public final class Promise28BadTest {
    public static void main(String[] args) {
        howMany();
        ofEachItsOwn();
        noSuchChannel();
        Check.end("Promise28BadTest");
    }

    private static void howMany() {
        // From bit 1 on 0 1 1 0 1 0 0 0 1 0 1 0 0 1 1 stand ahead of the frame: 0 1 0 0 at places 3 and 9.
        Run x = Run.of("bird a 4;heard a 0 7 0 9;send a 1 5;");
        x.lock(0, 0);
        Check.same("of an empty log", x.bad(0), 0);
        for (int bits = 1; bits <= 26; bits++) {
            x.follow(1);
            Check.same("of " + bits + " bits", x.bad(0), bits < 3 + 16 ? 0 : bits < 9 + 16 ? 1 : 2);
        }
        x.follow(14);
        Check.same("of 40 bits", x.bad(0), 2);
        Run right = Run.of("bird a 4;heard a 0 7 0 9;send a 1 5;");
        right.lock(0, 15);
        right.follow(64);
        Check.same("of frames alone", right.bad(0), 0);
    }

    private static void ofEachItsOwn() {
        Run x = Run.of("bird a 4;bird b 7;heard a 0 7 0 9;heard b 31 3 0 3;send a 1 5;ratio 10;");
        x.lock(0, 0);
        x.lock(1, 0);
        x.follow(40);
        int second = Logs.same(x, 1).get(Logs.read(Logs.log(x, 1)).size() - 1)[0];
        Check.same("of the first", x.bad(0), 2);
        Check.same("of the second", x.bad(1), second);
        Check.yes("they are two", second != 2);
        Check.same("of the first again", x.bad(0), 2);
    }

    /** "NONE: no such CHANNEL". */
    private static void noSuchChannel() {
        Run x = Run.of("bird a 4;heard a 0 7 0 9;send a 1 5;");
        x.lock(0, 0);
        x.follow(40);
        for (int c : Check.beside(0, 0)) {
            Check.same("bad of " + c, x.bad(c), -1);
        }
        Check.leaves(x, "no such channel", -1, o -> o.bad(1));
        Check.same("of a new object", new Run().bad(0), -1);
    }
}
