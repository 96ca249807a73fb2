import java.util.NoSuchElementException;

/** What the tests of the class share: TEXTS fed, calls that may throw, answers compared with those that are due. */
abstract class Checks {
    static final int NO_ELEMENT = -1001;
    static final int NO_ARGUMENT = -1002;
    /** Of anything else that is thrown, which the document never asks for. */
    private static final int MACHINE = -1003;

    private static int answers = 0;
    private static int wrong = 0;

    interface Call {
        int made();
    }

    /** What a call answers, or which of the document's exceptions it throws: that one, and none below it. */
    static int answer(Call call) {
        try {
            return call.made();
        } catch (RuntimeException e) {
            if (e.getClass() == NoSuchElementException.class) return NO_ELEMENT;
            return e.getClass() == IllegalArgumentException.class ? NO_ARGUMENT : MACHINE;
        }
    }

    static void due(String what, int got, int want) {
        answers++;
        if (got != want) {
            wrong++;
            System.out.println(what + ": answered " + got + ", due is " + want);
        }
    }

    static void due(String what, boolean got, boolean want) {
        due(what, got ? 1 : 0, want ? 1 : 0);
    }

    static void due(int promise, String what, int got, int want) {
        due("promise " + promise + ": " + what, got, want);
    }

    static void due(int promise, String what, boolean got, boolean want) {
        due("promise " + promise + ": " + what, got, want);
    }

    /** FLOOR, WAY and DOORS of a car behind each of the next TICKS. */
    static void path(String what, LiftBank x, int car, int[][] rows) {
        for (int[] row : rows) {
            int time = x.ticks(1);
            due(what + ": FLOOR of car " + car + " at TIME " + time, x.car(car, 3), row[0]);
            due(what + ": WAY of car " + car + " at TIME " + time, x.car(car, 4), row[1]);
            due(what + ": DOORS of car " + car + " at TIME " + time, x.car(car, 5), row[2]);
        }
    }

    static void end() {
        System.out.println(wrong == 0 ? "all " + answers + " answers are as due" : wrong + " answers are not as due");
        if (wrong != 0) System.exit(1);
    }

    /** The TEXT comes behind the tape, the last twenty bytes filled up with blanks: how many it has then. */
    static int feedText(LiftBank x, String text) {
        int has = x.count(22);
        for (int i = 0; i < text.length(); i += 20) {
            int[] n = new int[5];
            for (int k = 0; k < 20; k++) {
                int sign = i + k < text.length() ? text.charAt(i + k) : ' ';
                n[k / 4] = n[k / 4] << 8 | sign;
            }
            has = x.feed(n[0], n[1], n[2], n[3], n[4]);
        }
        return has;
    }

    static int tell(LiftBank x, String text) {
        feedText(x, text);
        return x.group(text.length());
    }

    static LiftBank of(String text) {
        LiftBank x = new LiftBank();
        due(3, "group of " + text, tell(x, text), 0);
        due(4, "fault of " + text, x.fault(), -1);
        return x;
    }

    static int group(LiftBank x, int n) {
        return answer(() -> x.group(n));
    }

    static int count(LiftBank x, int what) {
        return answer(() -> x.count(what));
    }

    static int car(LiftBank x, int car, int what) {
        return answer(() -> x.car(car, what));
    }

    static int rider(LiftBank x, int rider, int what) {
        return answer(() -> x.rider(rider, what));
    }

    static int given(LiftBank x, int floor, boolean up, int sort) {
        return answer(() -> x.given(floor, up, sort));
    }

    static int cost(LiftBank x, int car, int floor, boolean up, int sort) {
        return answer(() -> x.cost(car, floor, up, sort));
    }

    static int ahead(LiftBank x, int n, int what) {
        return answer(() -> x.ahead(n, what));
    }

    static int when(LiftBank x, int rider) {
        return answer(() -> x.when(rider));
    }

    static int mean(LiftBank x, int policy, int late) {
        return answer(() -> x.mean(policy, late));
    }

    static int anew(LiftBank x, int policy, int late, int what) {
        return answer(() -> x.anew(policy, late, what));
    }

    static int homes(LiftBank x, int car, int what) {
        return answer(() -> x.homes(car, what));
    }

    static int later(LiftBank x, int rider) {
        return answer(() -> x.later(rider));
    }

    static int fits(LiftBank x, int what) {
        return answer(() -> x.fits(what));
    }

    static int look(LiftBank x, int what) {
        return answer(() -> x.look(what));
    }

    static int years(LiftBank x, int seed, int n, int what) {
        return answer(() -> x.years(seed, n, what));
    }
}
