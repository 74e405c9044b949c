/** Promise 1: no BIRDS, all as it is without LINES; an empty TAPE. */
public final class Promise01NewTest {
    public static void main(String[] args) {
        counts();
        noBirds();
        asWithoutLines();
        nothingHeard();
        nothingToTakeBack();
        anEmptyTape();
        objectsApart();
        theLastCall();
        Check.end("Promise01NewTest");
    }

    private static void counts() {
        Run x = new Run();
        int[] due = {0, 0, 0, 0, 0, 0, 0, 0, 15, 5, 29, 0, 0, -1};
        for (int what = 0; what < due.length; what++) {
            Check.same("count " + what, x.count(what), due[what]);
        }
    }

    private static void noBirds() {
        Run x = new Run();
        Check.same("bird 0", x.thrown(0, 0), 1);
        Check.same("named a", x.named(Check.packed("a")), -1);
        Check.same("named by no letters", x.named(0), -1);
        Check.same("chip", x.chip(0, 0), 0);
        Check.same("cross", x.cross(0, 0, 0), -99);
        Check.same("worst", x.worst(0, 0), -2);
        Check.same("quiet", x.quiet(), 0);
        Check.same("bit", x.bit(0, 0), -1);
        Check.same("sum", x.sum(0, 0, 0, 0, 0), 0);
        Check.same("hunt", x.hunt(0, 0, 1, 0), -1);
        Check.same("listen", x.listen(0, 0), -1);
        Check.same("clear", x.clear(0, 0, 0), -1);
        Check.same("limit", x.limit(0, 0), -1);
        Check.same("chance", x.chance(0, 0, 1, 0), -1);
        Check.same("clearest", x.clearest(0, 0, 1), -1);
        Check.same("tune", x.tune(0, 0, 0), -1);
        Check.same("lock", x.lock(0, 0), -1);
        Check.same("range", x.range(0, 0), -2);
        Check.same("distance", x.distance(0, 0), -1);
        Check.same("fix", x.fix(0), -2);
        Check.same("fixWithout", x.fixWithout(0, 0), -1);
        Check.same("suspect", x.suspect(), -2);
        Check.same("spread", x.spread(0), -2);
        Check.same("tried", x.tried(1, 0), 0);
        Check.same("follow", x.follow(1), 0);
    }

    private static void asWithoutLines() {
        Run told = Run.of("");
        Check.same("as behind an empty text", new Run().whole(), told.whole());
        Check.same("no home", new Run().measure(0), -2);
        Check.same("no fault", new Run().fault(0), 0);
        Check.same("no place of it", new Run().fault(1), -1);
    }

    private static void nothingHeard() {
        Run x = new Run();
        for (int n = 0; n < 12400; n += 3099) {
            Check.same("RE " + n, x.sample(n, 0), 0);
            Check.same("IM " + n, x.sample(n, 1), 0);
        }
    }

    private static void nothingToTakeBack() {
        Check.same("undo", new Run().undo(), -1);
        Check.same("back", new Run().back(), -1);
        Check.same("drop", new Run().drop(), -1);
        for (int c = 0; c < 4; c++) {
            Check.same("channel " + c, new Run().channel(c, 0), -1);
        }
    }

    private static void anEmptyTape() {
        Run x = new Run();
        Check.same("text 1", x.text(1), -2);
        Check.same("text 0", x.text(0), 0);
        Check.same("feed", x.feed(0, 0, 0, 0, 0), 20);
    }

    private static void objectsApart() {
        Run one = Run.of("bird a 3;heard a 1 7 0 9;noise 9;place a 1 1 1;home 1 1 1 1;first 9;ratio 10;");
        one.lock(0, 0);
        one.range(0, 9);
        one.keep();
        one.feed(1, 1, 1, 1, 1);
        String was = one.whole();
        Run other = new Run();
        Check.same("a new one beside another", other.whole(), new Run().copy().whole());
        Check.same("count of it", other.count(0), 0);
        other.tell("bird b 1;noise 1;oh");
        other.tell("bird b 1;noise 1;");
        Check.same("the other one is as it was", one.whole(), was);
    }

    /** What is told of an object holds up to its 512th call. */
    private static void theLastCall() {
        BirdCodes x = new BirdCodes();
        for (int k = 1; k < Run.MOST_CALLS; k++) {
            int due = k % 2 == 1 ? 20 : 0;
            Check.same("call " + k, k % 2 == 1 ? x.feed(0, 0, 0, 0, 0) : x.text(0), due);
        }
        Check.same("call 512", x.count(11), 20);
        BirdCodes birds = new BirdCodes();
        birds.feed(0x62697264, 0x20613b20, 0, 0, 0);
        birds.feed(0x62697264, 0x20612030, 0x3b202020, 0x20202020, 0x20202020);
        Check.same("no delay", birds.text(6), -1);
        birds.feed(0x62697264, 0x20612030, 0x3b202020, 0x20202020, 0x20202020);
        Check.same("a bird", birds.text(20), 1);
        for (int k = 5; k < Run.MOST_CALLS; k++) {
            Check.same("range by call " + k, birds.range(0, k % 400), k == 5 ? -1 : k % 400 == 0 ? 399 : (k - 1) % 400);
        }
        Check.same("call 512", birds.undo(), 9);
    }
}
