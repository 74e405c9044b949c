/** What the tests share: holding answers against what is due, wrong arguments, names as numbers. */
final class Check {
    private static final long MOST_SECONDS = 300;
    private static int asked;
    private static int wrong;

    static {
        // A call that doesn't end is a fault too.
        Thread watch = new Thread(Check::stopLate);
        watch.setDaemon(true);
        watch.start();
    }

    private Check() {
    }

    private static void stopLate() {
        try {
            Thread.sleep(1000 * MOST_SECONDS);
        } catch (InterruptedException e) {
            return;
        }
        System.out.println("a call doesn't end");
        Runtime.getRuntime().halt(1);
    }

    static void same(String what, long got, long due) {
        asked++;
        if (got != due) {
            wrong++;
            System.out.println(what + " answered " + got + ", due is " + due);
        }
    }

    static void same(String what, String got, String due) {
        asked++;
        if (!got.equals(due)) {
            wrong++;
            int at = 0;
            while (at < got.length() && at < due.length() && got.charAt(at) == due.charAt(at)) {
                at++;
            }
            System.out.println(what + ": .." + part(got, at) + ".., due is .." + part(due, at) + "..");
        }
    }

    private static String part(String all, int at) {
        return all.substring(Math.max(0, at - 30), Math.min(all.length(), at + 20));
    }

    static void yes(String what, boolean holds) {
        same(what, holds ? 1 : 0, 1);
    }

    /** A call that answers so and changes nothing at all. */
    static void leaves(Run x, String what, int due, Run.Call call) {
        String before = x.whole();
        same(what, x.ask(call), due);
        same(what + " changes nothing", x.whole(), before);
    }

    /** Numbers that are none of least .. most: those next to them, and far ones. */
    static int[] beside(int least, int most) {
        return new int[] {least - 1, most + 1, least - 2, most + 2, least - 65536, most + 65536,
            Integer.MIN_VALUE, Integer.MIN_VALUE + 1, Integer.MAX_VALUE - 1, Integer.MAX_VALUE};
    }

    static void faultOf(String text, int kind, int place) {
        Run x = new Run();
        same("text of \"" + text + "\"", x.tell(text), BirdCodes.NONE);
        same("fault(0) of \"" + text + "\"", x.fault(0), kind);
        same("fault(1) of \"" + text + "\"", x.fault(1), place);
    }

    static void fine(String text, int lines) {
        Run x = new Run();
        same("text of \"" + text + "\"", x.tell(text), lines);
        same("fault(0) of \"" + text + "\"", x.fault(0), 0);
        same("fault(1) of \"" + text + "\"", x.fault(1), BirdCodes.NONE);
    }

    static int packed(String name) {
        int all = 0;
        for (int k = 0; k < 6; k++) {
            all = all << 5 | (k < name.length() ? name.charAt(k) - 'a' + 1 : 0);
        }
        return all;
    }

    /** The noise of a number: the first of two for RE (which 0), the second one for IM (1). */
    static int noise(int number, int most, int which) {
        long x = number;
        for (int k = 0; k <= which; k++) {
            x = (x * 1103515245L + 12345) % (1L << 31);
        }
        return (int) (x / 65536 % (2 * most + 1)) - most;
    }

    static void end(String test) {
        System.out.println(test + ": " + asked + " answers, " + wrong + " wrong");
        System.exit(wrong != 0 || asked == 0 ? 1 : 0);
    }
}
