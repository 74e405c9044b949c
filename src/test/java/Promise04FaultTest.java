/** Promise 4: fault. */
public final class Promise04FaultTest {
    public static void main(String[] args) {
        withoutOne();
        withOne();
        ofTheLatest();
        anotherWhat();
        Check.end("Promise04FaultTest");
    }

    private static void same(Run x, String when, int kind, int place) {
        Check.same("FAULT " + when, x.fault(0), kind);
        Check.same("its place " + when, x.fault(1), place);
    }

    private static void withoutOne() {
        same(new Run(), "of a new object", 0, -1);
        same(Run.of(""), "of an empty text", 0, -1);
        same(Run.of("noise 3;"), "of a fine text", 0, -1);
    }

    private static void withOne() {
        String[] texts = {"?", "noise 3;?", "noise 100;", "noise 1;noise 1;", "heard a 1 1 1 1;", "noise"};
        int[] kinds = {1, 1, 2, 3, 4, 1};
        int[] places = {0, 8, 6, 8, 6, 5};
        for (int k = 0; k < texts.length; k++) {
            Run x = new Run();
            Check.same("text", x.tell(texts[k]), -1);
            same(x, "of " + texts[k], kinds[k], places[k]);
            same(x, "once more, of " + texts[k], kinds[k], places[k]);
        }
    }

    /** "Of the latest text() that was not -2". */
    private static void ofTheLatest() {
        Run x = new Run();
        x.tell("noise 100;");
        same(x, "of the first", 2, 6);
        x.tell("seed 1;oh");
        same(x, "of the second", 1, 7);
        Check.same("text of too many", x.text(1), -2);
        same(x, "behind -2", 1, 7);
        Check.same("text of below 0", x.text(-1), -2);
        same(x, "behind -2 again", 1, 7);
        x.feedText("noise 100;");
        same(x, "behind feed", 1, 7);
        Check.same("text of none of it", x.text(0), 0);
        same(x, "behind a fine one", 0, -1);
        Check.same("text of too many", x.text(1), -2);
        same(x, "behind -2 behind a fine one", 0, -1);
        x.tell("first 0;");
        same(x, "a fault again", 2, 6);
        x.tell("first 1;");
        same(x, "a fine one again", 0, -1);
    }

    private static void anotherWhat() {
        Run fine = Run.of("noise 3;");
        Run fault = new Run();
        fault.tell("noise 3;noise 3;");
        for (int what : Check.beside(0, 1)) {
            Check.same("what " + what, fine.fault(what), -1);
            Check.same("what " + what + " with a fault", fault.fault(what), -1);
        }
        same(fault, "behind another what", 3, 8);
    }
}
