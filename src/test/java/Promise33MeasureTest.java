/** Promise 33: measure. What is MEASURED is told in section 4. */
public final class Promise33MeasureTest {
    public static void main(String[] args) {
        howMany();
        kOf0To20();
        noHome();
        noSuchK();
        oneAheadOfTheOther();
        Check.end("Promise33MeasureTest");
    }

    private static void howMany() {
        Check.same("five", Run.of(Places.FIVE).measure(3), 5);
        Run two = Run.of("bird a 0;bird b 0;bird c 0;place c 1 1 1;place a 2 2 2;home 1 1 1 1;");
        two.range(1, 77);
        Check.same("two of three", two.measure(0), 2);
        Check.same("a", two.range(0, -1), 6 + 4);
        Check.same("b stays", two.range(1, -1), 77);
        Check.same("c", two.range(2, -1), 4);
        Run none = Run.of("home 0 0 0 0;bird a 0;");
        Check.same("of none", none.measure(20), 0);
        Check.same("it isn't refused", none.count(12), 1);
        Check.same("without birds", Run.of("home 15 15 15 20;").measure(0), 0);
    }

    private static void kOf0To20() {
        for (int k = 0; k <= 20; k++) {
            Run x = Run.of("bird a 0;place a 5 5 5;home 5 5 5 20;seed 3;");
            Check.same("measure " + k, x.measure(k), 1);
            Check.same("range by " + k, x.range(0, 0), 80 + Check.noise(1003, k, 0));
        }
        // Measured again it is as by the last k, not more.
        Run again = Run.of("bird a 0;place a 5 5 5;home 5 5 5 20;seed 3;");
        again.measure(20);
        again.measure(20);
        again.measure(7);
        Check.same("measured again", again.range(0, 0), 80 + Check.noise(1003, 7, 0));
    }

    /** "-2: there is no home". */
    private static void noHome() {
        Run x = Run.of("bird a 0;place a 1 1 1;");
        x.range(0, 5);
        Check.leaves(x, "no home", -2, o -> o.measure(0));
        Check.same("no home", x.measure(20), -2);
        Check.same("it stays", x.range(0, 5), 5);
        Check.same("of a new object", new Run().measure(0), -2);
        Check.same("home 0 0 0 0 is one", Run.of("bird a 0;place a 1 1 1;home 0 0 0 0;").measure(0), 1);
        Run behind = Run.of("home 1 1 1 1;");
        behind.tell("bird a 0;");
        Check.same("a home of a text ahead", behind.measure(0), -2);
    }

    private static void noSuchK() {
        Run x = Run.of(Places.FIVE);
        x.measure(0);
        for (int k : Check.beside(0, 20)) {
            Check.same("measure " + k, x.measure(k), -1);
        }
        Check.leaves(x, "measure -1", -1, o -> o.measure(-1));
        Check.leaves(x, "measure 21", -1, o -> o.measure(21));
        Check.same("one can be undone", x.count(12), 1);
    }

    /** "NONE goes ahead of -2". */
    private static void oneAheadOfTheOther() {
        for (int k : Check.beside(0, 20)) {
            Check.same("no home, measure " + k, new Run().measure(k), -1);
        }
    }
}
