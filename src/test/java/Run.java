import java.util.ArrayList;
import java.util.List;
import java.util.NoSuchElementException;

/**
 * An object of the program as the tests use it. Nothing is promised of an object beyond 512 calls, so
 * calls are counted: a longer run goes on with a new object, to which all that changed something is
 * done again. It can also tell all that an object holds, from copies made by doing its calls again.
 */
final class Run {
    /** One call on an object. */
    interface Call {
        int on(BirdCodes x);
    }

    static final int MOST_CALLS = 512;
    /** So that a copy has calls left to be looked at. */
    private static final int MOST_COPIED = 200;

    private BirdCodes x = new BirdCodes();
    private final List<Call> made = new ArrayList<>();
    private final List<Call> changes = new ArrayList<>();

    /** A new object that has read a text without a fault. */
    static Run of(String text) {
        Run run = new Run();
        if (run.tell(text) < 0) {
            Check.same("fault of \"" + text + "\"", run.fault(0), 0);
        }
        return run;
    }

    /** Puts a text on the tape, filled up with blanks, and reads just its length. */
    int tell(String text) {
        feedText(text);
        return text(text.length());
    }

    /** Answers what the last feed() did (0 without one). */
    int feedText(String text) {
        int last = 0;
        for (int at = 0; at < text.length(); at += 20) {
            int[] fours = new int[5];
            for (int k = 0; k < 20; k++) {
                int sign = at + k < text.length() ? text.charAt(at + k) : ' ';
                fours[k / 4] = fours[k / 4] << 8 | sign;
            }
            last = feed(fours[0], fours[1], fours[2], fours[3], fours[4]);
        }
        return last;
    }

    int calls() {
        return made.size();
    }

    /** A call that changes nothing, as it should. */
    int ask(Call call) {
        if (made.size() == MOST_CALLS) {
            renew();
        }
        made.add(call);
        return call.on(x);
    }

    private int change(Call call) {
        int answer = ask(call);
        changes.add(call);
        return answer;
    }

    private void renew() {
        x = new BirdCodes();
        made.clear();
        for (Call call : changes) {
            call.on(x);
            made.add(call);
        }
        if (made.size() >= MOST_CALLS) {
            throw new IllegalStateException("a test changes an object too often");
        }
    }

    /** Another object to which all the same has been done. */
    Run copy() {
        if (made.size() > MOST_COPIED) {
            throw new IllegalStateException("a test copies an object of too many calls");
        }
        Run other = new Run();
        for (Call call : made) {
            other.made.add(call);
            try {
                call.on(other.x);
            } catch (IndexOutOfBoundsException | NoSuchElementException e) {
                // A call of bird() that is refused.
                continue;
            }
        }
        other.changes.addAll(changes);
        return other;
    }

    // ---- all that an object holds ----

    /** All that can be told of the object. */
    String whole() {
        return telling() + tape();
    }

    /** All but the tape and the fault. */
    String telling() {
        StringBuilder all = new StringBuilder();
        copy().birdsInto(all);
        copy().samplesInto(all);
        copy().channelsInto(all);
        copy().rangesInto(all);
        for (int times = 1; times <= 11; times++) {
            Run other = copy();
            for (int k = 0; k < times; k++) {
                all.append(" undo ").append(other.undo());
            }
            other.stateInto(all);
        }
        Run other = copy();
        all.append(" back ").append(other.back());
        other.stateInto(all);
        all.append(" undo ").append(other.undo());
        return all.toString();
    }

    /** The tape and the fault. */
    String tape() {
        Run other = copy();
        StringBuilder all = new StringBuilder(" fault " + other.fault(0) + " " + other.fault(1));
        int bytes = other.count(11);
        all.append(" tape ").append(bytes).append(" read ").append(other.text(bytes));
        all.append(" fault ").append(other.fault(0)).append(' ').append(other.fault(1));
        other.birdsInto(all);
        return all.toString();
    }

    private void birdsInto(StringBuilder all) {
        all.append(" birds");
        for (int what = 0; what <= 12; what++) {
            all.append(' ').append(what == 11 ? 0 : count(what));
        }
        for (int bird = 0; bird < 5; bird++) {
            for (int what = 0; what <= 10; what++) {
                int thrown = thrown(bird, what);
                all.append(' ').append(thrown == 0 ? "" + bird(bird, what) : "thrown");
            }
            for (int i = 0; i < 31; i += 3) {
                all.append(' ').append(chip(bird, i));
            }
            for (int number = 0; number < 200; number += 17) {
                all.append(' ').append(bit(bird, number));
            }
        }
        for (char letter = 'a'; letter <= 'z'; letter++) {
            all.append(' ').append(named(Check.packed("" + letter)));
        }
    }

    private void samplesInto(StringBuilder all) {
        all.append(" samples");
        for (int n = 0; n < 12400; n += 103) {
            all.append(' ').append(sample(n, 0)).append(' ').append(sample(n, 1));
        }
        for (int bird = 0; bird < 5; bird++) {
            all.append(' ').append(hunt(bird, 3, 1, 3)).append(' ').append(hunt(bird, 3, 1, 2));
        }
        all.append(" home ").append(measure(0)).append(' ').append(fix(3)).append(' ').append(fix(4));
    }

    private void channelsInto(StringBuilder all) {
        all.append(" channels");
        for (int channel = 0; channel < 4; channel++) {
            for (int what = 0; what <= 8; what++) {
                all.append(' ').append(channel(channel, what));
            }
            for (int i = 0; i <= 64; i++) {
                all.append(' ').append(logged(channel, i));
            }
        }
    }

    private void rangesInto(StringBuilder all) {
        all.append(" ranges");
        for (int bird = 0; bird < 5; bird++) {
            all.append(' ').append(range(bird, BirdCodes.NONE));
        }
    }

    private void stateInto(StringBuilder all) {
        for (int channel = 0; channel < 4; channel++) {
            for (int what = 0; what <= 8; what++) {
                all.append(' ').append(channel(channel, what));
            }
            for (int i = 0; i < 64; i += 7) {
                all.append(' ').append(logged(channel, i));
            }
        }
        all.append(' ').append(count(6));
        rangesInto(all);
    }

    /** Channels and ranges alone. */
    String state() {
        StringBuilder all = new StringBuilder();
        copy().channelsInto(all);
        copy().rangesInto(all);
        return all.toString();
    }

    // ---- the face ----

    int feed(int a, int b, int c, int d, int e) {
        return change(o -> o.feed(a, b, c, d, e));
    }

    int text(int n) {
        return change(o -> o.text(n));
    }

    int lock(int bird, int period) {
        return change(o -> o.lock(bird, period));
    }

    int drop() {
        return change(o -> o.drop());
    }

    int follow(int n) {
        return change(o -> o.follow(n));
    }

    int range(int bird, int range) {
        return change(o -> o.range(bird, range));
    }

    int measure(int k) {
        return change(o -> o.measure(k));
    }

    int undo() {
        return change(o -> o.undo());
    }

    int keep() {
        return change(o -> o.keep());
    }

    int back() {
        return change(o -> o.back());
    }

    int fault(int what) {
        return ask(o -> o.fault(what));
    }

    int named(int letters) {
        return ask(o -> o.named(letters));
    }

    int bird(int bird, int what) {
        return ask(o -> o.bird(bird, what));
    }

    /** 1: bird() throws IndexOutOfBoundsException, 2: NoSuchElementException, 3: another one, 0: nothing. */
    int thrown(int bird, int what) {
        try {
            bird(bird, what);
            return 0;
        } catch (NoSuchElementException e) {
            return 2;
        } catch (RuntimeException e) {
            return e.getClass() == IndexOutOfBoundsException.class ? 1 : 3;
        }
    }

    int chip(int bird, int i) {
        return ask(o -> o.chip(bird, i));
    }

    int period(int mask) {
        return ask(o -> o.period(mask));
    }

    int cross(int one, int other, int by) {
        return ask(o -> o.cross(one, other, by));
    }

    int worst(int one, int other) {
        return ask(o -> o.worst(one, other));
    }

    int quiet() {
        return ask(o -> o.quiet());
    }

    int sample(int n, int what) {
        return ask(o -> o.sample(n, what));
    }

    int bit(int bird, int number) {
        return ask(o -> o.bit(bird, number));
    }

    int sum(int bird, int period, int cell, int turn, int what) {
        return ask(o -> o.sum(bird, period, cell, turn, what));
    }

    int hunt(int bird, int period, int m, int what) {
        return ask(o -> o.hunt(bird, period, m, what));
    }

    int listen(int bird, int period) {
        return ask(o -> o.listen(bird, period));
    }

    int clear(int bird, int period, int what) {
        return ask(o -> o.clear(bird, period, what));
    }

    int limit(int bird, int period) {
        return ask(o -> o.limit(bird, period));
    }

    int chance(int bird, int period, int n, int what) {
        return ask(o -> o.chance(bird, period, n, what));
    }

    int clearest(int bird, int period, int n) {
        return ask(o -> o.clearest(bird, period, n));
    }

    int tune(int bird, int period, int start) {
        return ask(o -> o.tune(bird, period, start));
    }

    int channel(int channel, int what) {
        return ask(o -> o.channel(channel, what));
    }

    int logged(int channel, int i) {
        return ask(o -> o.logged(channel, i));
    }

    int frame(int channel, int k, int what) {
        return ask(o -> o.frame(channel, k, what));
    }

    int bad(int channel) {
        return ask(o -> o.bad(channel));
    }

    int errors(int channel) {
        return ask(o -> o.errors(channel));
    }

    int latest(int channel, int kind) {
        return ask(o -> o.latest(channel, kind));
    }

    int off(int channel) {
        return ask(o -> o.off(channel));
    }

    int fix(int what) {
        return ask(o -> o.fix(what));
    }

    int fixWithout(int bird, int what) {
        return ask(o -> o.fixWithout(bird, what));
    }

    int suspect() {
        return ask(o -> o.suspect());
    }

    int spread(int limit) {
        return ask(o -> o.spread(limit));
    }

    int distance(int one, int other) {
        return ask(o -> o.distance(one, other));
    }

    int tried(int n, int what) {
        return ask(o -> o.tried(n, what));
    }

    int count(int what) {
        return ask(o -> o.count(what));
    }
}
