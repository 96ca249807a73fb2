/** The edges of what section 3 of the document foretells and compares; all worked out by hand. */
public final class AnswerEdgesTest extends Checks {
    /** The nearer CAR, 1, takes the first RIDER up; POLICY 0 leaves it to the second one, POLICY 1 does not. */
    private static final String BY_TURNS = "floors 12;car 8 1;car 5 1;rider 0 6 11;rider 2 5 0;";
    /** POLICY 0 sends the CAR that is far, POLICY 1 the one that is going away. */
    private static final String BY_COST = "car 6 4;car 2 4;rider 0 2 7;rider 3 3 0;";
    /** By POLICY 1 the parcel is left to CAR 0, which brings all persons first: DONE at 200. */
    private static final String PARCEL_LAST = "floors 2;car 0 1;car 1 1 parcels;dwell 4;" + "rider 5 0 1;".repeat(19)
            + "rider 5 0 1 parcel;";

    public static void main(String[] args) {
        ahead();
        aheadOfNow();
        beyondTheLastTime();
        when();
        quiet();
        quietWhereItParks();
        mean();
        latest();
        ofTheLatestText();
        best();
        thrift();
        room();
        missed();
        homes();
        later();
        laterByItself();
        fits();
        look();
        unlike();
        years();
        yearsOfManyRiders();
        yearsAreAsEver();
        status();
        end();
    }

    /** One CAR for one RIDER alone: of 20 from 0 to 1 the last is DONE 195 behind that TIME. */
    private static String shuttle(int time) {
        return "floors 2;car 0 1;dwell 4;" + ("rider " + time + " 0 1;").repeat(20);
    }

    // --- AHEAD, WHEN, QUIET ---

    private static void ahead() {
        // it comes at 99, WAITS for 9 FLOORS, is brought 9 FLOORS behind DOORS for 2: DONE at 119
        LiftBank x = of("floors 12;car 0 1;rider 99 9 0;");
        int[][] waited = {{0, 0}, {99, 0}, {100, 1}, {107, 8}, {108, 9}, {120, 9}};
        for (int[] row : waited) due("WAITED, " + row[0] + " on", ahead(x, row[0], 2), row[1]);
        due("DONE, 119 on", ahead(x, 119, 0), 0);
        due("DONE, 120 on", ahead(x, 120, 0), 1);
        due("STOPPED, 108 on", ahead(x, 108, 3), 0);
        due("STOPPED, 109 on", ahead(x, 109, 3), 1);
        due("STOPPED, 119 on", ahead(x, 119, 3), 0);
        due("STOPPED, 120 on", ahead(x, 120, 3), 1);
        for (int what = 0; what < 4; what++) {
            due("n 121", ahead(x, 121, what), NO_ARGUMENT);
            due("n -1", ahead(x, -1, what), NO_ARGUMENT);
        }
    }

    /** 0 on is now. */
    private static void aheadOfNow() {
        LiftBank x = of("car 0 1;car 2 1;dwell 1;rider 0 0 3;rider 0 1 3;rider 0 2 3;");
        int[][] want = {{0, 0, 1, 2}, {0, 0, 2, 0}, {0, 1, 3, 1}};
        due("nothing yet", ahead(x, 0, 0) + ahead(x, 0, 1) + ahead(x, 0, 2) + ahead(x, 0, 3), 0);
        // at TIME 2 CAR 1 is DONE with its one at 3; CAR 0 passes FLOOR 1, as it is full
        want[2][0] = 1;
        for (int i = 0; i < 3; i++) {
            for (int what = 0; what < 4; what++) due("foretold, what " + what, ahead(x, i + 1, what), want[i][what]);
        }
        for (int i = 0; i < 3; i++) {
            x.ticks(1);
            for (int what = 0; what < 4; what++) {
                due("TIME " + (i + 1) + ", what " + what, ahead(x, 0, what), want[i][what]);
            }
        }
        x = of("car 0 1;car 7 1;rider 0 0 3;");
        x.ticks(1);
        x.out(0, true);
        due("a CAR that is OUT has no DOORS open", ahead(x, 0, 3), 0);
    }

    /** No promise says that TIME must not be above 999 in what is foretold. */
    private static void beyondTheLastTime() {
        LiftBank x = of("car 0 1;dwell 1;");
        for (int i = 0; i < 16; i++) x.ticks(60);
        x.ticks(39);
        x.come(0, 5, 1);
        due("TIME", count(x, 7), 999);
        due("no TICK goes by", x.ticks(1), -1);
        due("AHEAD", ahead(x, 120, 0), 1);
        due("WHEN", when(x, 0), 999 + 6);
        // up, OPENS, DOORS, and down
        due("QUIET", count(x, 29), 6 + 1 + 5);
        due("YEARS", years(x, 0, 20, 0) > 1, true);
    }

    private static void when() {
        LiftBank x = of(shuttle(4));
        for (int r = 0; r < 20; r++) due("WHEN of RIDER " + r, when(x, r), 9 + 10 * r);
        x = of(shuttle(5));
        due("by the 190th TICK", when(x, 18), 190);
        due("not within 200", when(x, 19), -1);
        x.ticks(1);
        due("by the 200th TICK", when(x, 19), 200);
        x.ticks(60);
        due("DONE already", when(x, 0), 10);
        x.out(0, true);
        due("never", when(x, 19), -1);
        due("DONE still", when(x, 0), 10);
    }

    private static void quiet() {
        // one from 1 to 0 by 5 TICKS, then 19 from 0 to 1 by 10 each: the last is DONE 190 behind the first's TIME,
        // at HOME, where DOORS are closed by the fifth TICK from that one on
        LiftBank x = of(upAndDown(5));
        due("the last is DONE at", when(x, 19), 195);
        due("QUIET behind 200", count(x, 29), 200);
        x.ticks(1);
        due("QUIET behind 199", count(x, 29), 199);
        x = of(upAndDown(6));
        due("not behind 201", count(x, 29), -1);
        x.ticks(1);
        due("but then behind 200", count(x, 29), 200);
        due("without CARS and RIDERS", count(new LiftBank(), 29), 0);
        x = of("rider 0 0 1;");
        due("who WAITS for ever", count(x, 29), -1);
    }

    private static String upAndDown(int time) {
        return "floors 2;car 1 1;dwell 4;rider " + time + " 1 0;" + ("rider " + time + " 0 1;").repeat(19);
    }

    private static void quietWhereItParks() {
        LiftBank x = of("car 3 1 parcels;car 0 1 persons;dwell 1;rider 0 0 1;peak 1;");
        // persons: DOORS, up, OPENS, down; parcels: from 3 to 0 by 3 TICKS
        due("in a PEAK", count(x, 29), 4);
        x.ticks(4);
        due("all at 0", count(x, 29), 0);
        due("which is not HOME", car(x, 0, 3), 0);
        x = of("car 3 1;dwell 1;rider 0 2 1;");
        // down, OPENS, down, OPENS, up, up
        due("at HOME", count(x, 29), 6);
        x.ticks(5);
        x.out(0, true);
        due("OUT, wherever it is", count(x, 29), 0);
        x.out(0, false);
        due("IN, one FLOOR from HOME", count(x, 29), 1);
        x = of("car 0 1;dwell 4;rider 7 0 1;");
        // OPENS by the 8th TICK, up by the 4th from there on, OPENS, down by the 4th
        due("who comes still counts", count(x, 29), 8 + 4 + 1 + 4);
    }

    // --- ALL ANEW ---

    private static void mean() {
        LiftBank x = of("car 0 1;");
        x.come(3, 0, 1);
        for (int policy = 0; policy < 3; policy++) {
            for (int late = 0; late < 12; late++) {
                due("MEAN without RIDERS of the TEXT", mean(x, policy, late), 0);
                due("DONE", anew(x, policy, late, 0), 0);
                due("the latest", anew(x, policy, late, 1), -1);
                due("PASSED", anew(x, policy, late, 2), 0);
            }
        }
        x = of("car 0 1;rider 0 0 1;");
        due("nobody WAITED", mean(x, 0, 0), 0);
        x = of("rider 99 0 1;");
        due("without CARS: WAITED from 99 to 199", mean(x, 1, 0), Float.floatToIntBits(101f));
        x = of("rider 99 0 1;rider 98 0 1;rider 98 0 1;");
        due("a third", mean(x, 1, 0), Float.floatToIntBits(305f / 3f));
        // three full CARS OPEN at once; the thirteenth RIDER is one FLOOR away, and WAITED one
        String six = "car 0 6;car 3 6;car 6 6;" + "rider 0 0 1;".repeat(6) + "rider 0 3 4;".repeat(6);
        x = of(six + "rider 0 7 0;");
        due("the least that is not 0", mean(x, 1, 0), Float.floatToIntBits(1f / 13f));
    }

    /** The latest TIME at which one was DONE, whichever number it has. */
    private static void latest() {
        String[] texts = {"car 0 1;rider 0 0 3;", "car 0 1;rider 0 0 3;rider 0 1 3;",
            "car 0 1;rider 0 1 3;rider 0 0 3;", "car 0 1 persons;rider 0 0 3;rider 0 0 3 parcel;",
            "car 0 1 persons;rider 0 0 3 parcel;"};
        int[] want = {5, 13, 13, 5, -1};
        int[] done = {1, 2, 2, 1, 0};
        for (int i = 0; i < texts.length; i++) {
            LiftBank x = of(texts[i]);
            for (int policy = 0; policy < 3; policy++) {
                due("the latest of " + texts[i], anew(x, policy, 0, 1), want[i]);
                due("DONE of " + texts[i], anew(x, policy, 0, 0), done[i]);
            }
        }
    }

    private static void ofTheLatestText() {
        LiftBank x = of(BY_COST);
        allAnew(x);
        due("the second TEXT", tell(x, BY_TURNS), 0);
        int[] second = allAnew(x);
        int[] fresh = allAnew(of(BY_TURNS));
        for (int i = 0; i < fresh.length; i++) due("ALL ANEW " + i + " of the second TEXT", second[i], fresh[i]);
        due("a TEXT with a FAULT", tell(x, "car 0 1;x"), 1);
        int[] third = allAnew(x);
        for (int i = 0; i < fresh.length; i++) due("ALL ANEW " + i + " behind a FAULT", third[i], fresh[i]);
    }

    private static int[] allAnew(LiftBank x) {
        int[] all = new int[36 * 3];
        for (int i = 0; i < 36; i++) {
            all[3 * i] = mean(x, i / 12, i % 12);
            all[3 * i + 1] = anew(x, i / 12, i % 12, 1);
            all[3 * i + 2] = anew(x, i / 12, i % 12, 2);
        }
        return all;
    }

    private static void best() {
        compare(BY_TURNS, new float[] {1f, 7.5f, 2f}, 0);
        compare(BY_COST, new float[] {2.5f, 5f, 1.5f}, 2);
        compare("car 2 4;car 6 4;rider 0 2 7;rider 3 3 0;", new float[] {1.5f, 5f, 1.5f}, 0);
        compare("car 0 1;car 5 1;rider 0 5 0;", new float[] {5f, 0f, 0f}, 1);
        compare("car 0 1;", new float[] {0f, 0f, 0f}, 0);
        compare("rider 0 0 1;", new float[] {200f, 200f, 200f}, 0);
        // LATE 1: by POLICY 1 the second CALL of BY_COST goes to the other CAR at TIME 6
        LiftBank x = of(BY_COST);
        due("MEAN by LATE 1", mean(x, 1, 1), Float.floatToIntBits(3f));
        x.rule(1, 1);
        due("BEST by LATE 1", count(x, 17), 2);
    }

    private static void compare(String text, float[] means, int best) {
        LiftBank x = of(text);
        for (int p = 0; p < 3; p++) due("MEAN by " + p + " of " + text, mean(x, p, 0), Float.floatToIntBits(means[p]));
        for (int p = 0; p < 3; p++) {
            x.rule(0, p);
            due("BEST, whichever POLICY it is now, of " + text, count(x, 17), best);
        }
    }

    private static void thrift() {
        // the range of FLOORS counts: from HOME 6 it is one more, though it is nearer
        due("THRIFT 0", count(of("car 2 1;car 6 1;rider 0 5 1;"), 27), 0);
        due("THRIFT, of like ones the first", count(of("car 6 1;car 2 1;rider 0 5 1;"), 27), 0);
        due("THRIFT 1", count(of("car 0 1;car 7 1;rider 0 4 7;"), 27), 1);
        // CAR 0 is nearest, but going up; CAR 1 comes from far
        String text = "floors 12;car 7 1;car 11 1 persons;car 2 1 persons;dwell 1;rider 0 0 7 parcel;rider 10 4 0;";
        LiftBank x = of(text);
        due("THRIFT 2", count(x, 27), 2);
        due("whatever is now", x.rule(0, 0), 1);
        x.ticks(60);
        due("THRIFT 2", count(x, 27), 2);
        due("THRIFT without CARS", count(of("rider 0 0 1;"), 27), 0);
    }

    private static void room() {
        for (int n = 1; n <= 6; n++) {
            LiftBank x = of("car 0 1;" + "rider 0 0 3;".repeat(n) + "rider 0 1 3;");
            due("ROOM, as " + n + " come aboard at 0", count(x, 18), n == 6 ? -1 : n + 1);
            due("CAPACITY is as ever", car(x, 0, 1), 1);
        }
        due("ROOM without CARS", count(of("rider 0 0 1;"), 18), 1);
        due("ROOM without RIDERS", count(of("car 0 6;"), 18), 1);
        // by POLICY 1 both CALLS are CAR 0's; by turns the second one is CAR 1's
        LiftBank x = of("car 0 1;car 7 1;rider 0 0 3;rider 0 1 3;");
        due("ROOM by POLICY 1", count(x, 18), 2);
        x.rule(0, 0);
        due("ROOM by POLICY 0", count(x, 18), 1);
    }

    private static void missed() {
        due("MISSED without CARS", count(of("rider 0 0 1;"), 19), -1);
        due("MISSED without RIDERS, the first", count(of("car 0 1;car 0 1;"), 19), 0);
        due("the nearest is", count(of("car 0 1;car 7 1;car 4 1;car 1 1;rider 0 4 0;"), 19), 2);
        due("of two like ones neither is", count(of("car 4 1;car 4 1;car 0 1 parcels;rider 0 4 0;"), 19), 0);
        due("the only one for parcels", count(of("car 4 1 persons;car 7 1;rider 0 4 0;rider 0 4 0 parcel;"), 19), 1);
        LiftBank x = of("car 0 1;car 5 1;rider 0 5 0;rider 40 5 0;");
        due("by POLICY 1", count(x, 19), 1);
        x.rule(0, 0);
        // without CAR 0 the other one WAITS for none of them; without CAR 1 both for 5 FLOORS
        due("by POLICY 0", count(x, 19), 1);
        due("it is IN as ever", car(x, 1, 7), 1);
    }

    private static void homes() {
        LiftBank x = of("floors 12;car 3 1;");
        due("without RIDERS the least", homes(x, 0, 0), 0);
        due("how much", homes(x, 0, 1), 0);
        x = of("floors 2;car 0 1;rider 0 1 0;");
        due("the highest of two", homes(x, 0, 0), 1);
        due("how much", homes(x, 0, 1), 0);
        x = of("floors 12;car 3 1;rider 0 11 0;");
        due("the highest of twelve", homes(x, 0, 0), 11);
        due("its HOME is as ever", car(x, 0, 2), 3);
        x = of("floors 12;car 3 1 parcels;car 3 1;rider 0 11 0;");
        due("a CAR that takes none of them", homes(x, 0, 0), 0);
        due("WAITED together", homes(x, 0, 1), 8);
        due("the other one", homes(x, 1, 0), 11);
        x = of("floors 12;car 3 1;rider 0 4 0;rider 60 6 0;");
        // from 4, 5, 6: 0 and 2, 1 and 1, 2 and 0
        due("of like ones the least", homes(x, 0, 0), 4);
        due("how much", homes(x, 0, 1), 2);
        // by 0 and by 1 they WAIT 7, by 2 only 3; a FLOOR more and the CALL at 1 were CAR 1's, and they WAITED 2
        x = of("floors 3;car 0 1;car 0 1;rider 4 2 1;rider 4 1 0;");
        due("none is above the highest", homes(x, 0, 0), 2);
        due("how much", homes(x, 0, 1), 3);
    }

    // --- LATER ---

    /** The CAR passes the second RIDER and comes back 29 TICKS later, so its TIME alone sets the end. */
    private static void later() {
        for (int time = 60; time <= 99; time++) {
            LiftBank x = of("floors 12;car 0 1;dwell 4;rider " + time + " 0 11;rider " + time + " 1 11;");
            due("LATER from TIME " + time, later(x, 1), Math.min(20, 99 - time));
            due("the first WAITS for nobody", later(x, 0), 0);
            due("its TIME is as ever", rider(x, 1, 1), time);
        }
    }

    private static void laterByItself() {
        for (int from = 0; from < 12; from++) {
            // DOORS for 2 at 0, then so many FLOORS up; at 0 it comes aboard by the first TICK alone
            LiftBank x = of("floors 12;car 0 2;rider 0 0 11;rider 0 " + from + " " + (from == 11 ? 0 : 11) + ";");
            int least = from == 0 ? 0 : from + 2;
            due("LATER at FLOOR " + from, later(x, 1), Math.min(20, from == 11 ? laterAtTop() : least));
        }
        LiftBank x = of("car 0 1 persons;rider 0 1 2 parcel;rider 99 1 2;");
        due("not DONE without", later(x, 0), 0);
        due("TIME 99", later(x, 1), 0);
        x = of(shuttle(4));
        // it is DONE at 199 as ever, as it comes aboard at 194 and those ahead of it do so all the time
        due("the last of all", later(x, 19), 20);
        due("the first of all", later(x, 0), 0);
        x = of(shuttle(5));
        due("the last of all, not DONE within 200 TICKS", later(x, 19), 0);
        // one TICK later all others come first, and it is not DONE within 200 TICKS
        x = of("floors 2;car 0 1;dwell 4;" + "rider 5 0 1;".repeat(19) + "rider 4 0 1;");
        due("DONE without", when(x, 19), 9);
        due("not DONE is no TIME that is no later", later(x, 19), 0);
    }

    /** At 11 the CAR OPENS by the TICK of TIME 13 with no STOP ahead, so a CALL down may come then still. */
    private static int laterAtTop() {
        return 13;
    }

    // --- FITS, LOOK NEXT ---

    private static void fits() {
        LiftBank x = of(PARCEL_LAST);
        due("with nothing NOTED", fits(x, 0), 36);
        due("the first", fits(x, 1), 0);
        x.note(19, 12);
        due("POLICIES 0 and 2", fits(x, 0), 24);
        due("the first", fits(x, 1), 0);
        x.note(18, 190);
        due("so it is by all", fits(x, 0), 24);
        x.note(18, 189);
        due("one RIDER at two TIMES", fits(x, 0), 0);
        due("no first", fits(x, 1), -1);
        x.forget();
        x.note(19, 199);
        due("by POLICY 1 it is not DONE", fits(x, 0), 0);
        x = of(PARCEL_LAST.replace("rider 5", "rider 4"));
        x.note(19, 199);
        due("by POLICY 1 it is DONE at 199", fits(x, 0), 12);
        due("the first: 12 times 1, and 0", fits(x, 1), 12);
        x.forget();
        x.note(0, 0);
        due("none at 0", fits(x, 0), 0);
        x = of(BY_COST);
        x.note(1, 9);
        due("by POLICY 0 alone", fits(x, 0), 12);
        due("the first: 0", fits(x, 1), 0);
        x.forget();
        x.note(1, 11);
        due("by POLICY 2 alone", fits(x, 0), 12);
        due("the first: 12 times 2, and 0", fits(x, 1), 24);
        x = of("car 0 1;");
        due("without RIDERS", fits(x, 0), 36);
        due("nothing can be NOTED", x.note(0, 5), -1);
    }

    private static void look() {
        LiftBank x = of("car 0 1;");
        due("without RIDERS none", look(x, 0), -1);
        due("how many", look(x, 1), 0);
        x = of("car 0 1;rider 0 0 1;rider 0 1 2;");
        due("of like ones the first", look(x, 0), 0);
        due("all by one TIME", look(x, 1), 1);
        x.note(1, 0);
        due("none fits", look(x, 0), -1);
        due("how many", look(x, 1), 0);
        x.forget();
        due("forgotten", look(x, 0), 0);
        x.come(0, 7, 1);
        x.ticks(5);
        due("RIDERS of the TEXT alone", look(x, 1), 1);
    }

    /** The TIME of being DONE, or that it is not. */
    private static void unlike() {
        LiftBank x = of(PARCEL_LAST);
        due("DONE at 12, or not", look(x, 0), 19);
        due("two", look(x, 1), 2);
        x.note(19, 12);
        due("then all are alike", look(x, 0), 0);
        due("one", look(x, 1), 1);
        x = of(PARCEL_LAST.replace("rider 5", "rider 4"));
        due("DONE at 11, or at 199", look(x, 0), 19);
        due("two", look(x, 1), 2);
        // three TIMES of the second one by POLICIES alone, as of two FLOORS none is LATE
        x = of(BY_COST);
        x.note(0, 7);
        due("POLICIES 1 and 2", fits(x, 0), 24);
        due("the second one", look(x, 0), 1);
    }

    // --- YEARS ---

    private static long state;

    /** The same as an int that wraps, by sums that do not. */
    private static int draw(int n) {
        state = (state * 1103515245L + 12345L) % 4294967296L;
        return (int) (state / 65536L % 32768L % n);
    }

    /** WAITED without CARS: as many as are there, for each TICK. */
    private static int waitedInYears(int seed, int n, int riders) {
        state = seed < 0 ? seed + 4294967296L : seed;
        int sum = 0;
        for (int i = 1; i <= n; i++) {
            draw(8);
            draw(7);
            draw(2);
            sum += Math.min(24, riders + i) * (draw(8) + 1);
        }
        return sum;
    }

    private static int ticksOfYears(int seed, int n, int floors) {
        state = seed;
        int sum = 0;
        for (int i = 0; i < n; i++) {
            draw(floors);
            draw(floors - 1);
            draw(2);
            sum += draw(8) + 1;
        }
        return sum;
    }

    private static void years() {
        int[] seeds = {0, 1, -1, 2, 12345, -1103515245, Integer.MAX_VALUE, Integer.MIN_VALUE};
        for (int seed : seeds) {
            LiftBank x = of("");
            for (int n = 0; n <= 20; n++) {
                due("WAITED in YEARS " + seed + ", " + n, years(x, seed, n, 1), waitedInYears(seed, n, 0));
                due("DONE then", years(x, seed, n, 0), 0);
                due("PASSED in it", years(x, seed, n, 2), 0);
            }
            due("n 21", years(x, seed, 21, 0), NO_ARGUMENT);
            due("n -1", years(x, seed, -1, 1), NO_ARGUMENT);
        }
    }

    /** A RIDER comes, if there are not 24; the DRAWS are the same. */
    private static void yearsOfManyRiders() {
        LiftBank x = of("rider 0 0 1;".repeat(20));
        x.ticks(1);
        for (int riders = 20; riders <= 24; riders++) {
            for (int seed = 7; seed < 10; seed++) {
                due("20 YEARS from " + riders, years(x, seed, 20, 1), waitedInYears(seed, 20, riders));
                due("3 YEARS from " + riders, years(x, seed, 3, 1), waitedInYears(seed, 3, riders));
            }
            due("RIDERS", count(x, 2), riders);
            due("come", x.come(0, 1, 1), riders == 24 ? -1 : riders);
        }
    }

    /** What was ahead of it counts for DONE, and not for WAITED and PASSED. */
    private static void yearsAreAsEver() {
        LiftBank x = of("floors 2;car 0 1;car 0 6 parcels;dwell 1;rider 0 0 1;rider 0 1 0;");
        x.ticks(3);
        due("DONE", count(x, 11), 1);
        due("WAITED", count(x, 14), 2);
        due("none: DONE then", years(x, 5, 0, 0), 1);
        due("none: WAITED in it", years(x, 5, 0, 1), 0);
        due("none: PASSED in it", years(x, 5, 0, 2), 0);
        due("twice the same", years(x, 5, 20, 0), years(x, 5, 20, 0));
        due("TIME", count(x, 7), 3);
        due("RIDERS", count(x, 2), 2);
        due("ACTS", count(x, 20), 1);
        x = of("floors 2;car 0 6;dwell 1;" + "rider 0 0 1;".repeat(20));
        for (int i = 0; i < 4; i++) x.come(1, 0, 1);
        x.ticks(60);
        due("24 are DONE", count(x, 11), 24);
        due("24 stay DONE", years(x, 3, 20, 0), 24);
        due("nobody WAITED in it", years(x, 3, 20, 1), 0);
        x = of("floors 2;car 0 6 persons;dwell 1;rider 0 0 1 parcel;" + "rider 0 0 1;".repeat(19));
        for (int i = 0; i < 4; i++) x.come(1, 0, 1);
        x.ticks(60);
        due("23 are DONE", count(x, 11), 23);
        due("and stay so", years(x, 3, 20, 0), 23);
        due("one WAITED in it", years(x, 3, 20, 1), ticksOfYears(3, 20, 2));
        x = of("car 0 1;dwell 1;rider 0 0 4;rider 0 1 4;");
        x.ticks(5);
        due("PASSED ahead of it", count(x, 13), 1);
        due("is not PASSED in it", years(x, 5, 0, 2), 0);
    }

    // --- STATUS ---

    /** 0 TEXTS with a FAULT, 1 ACTS, 2 what is NOTED: each by itself. */
    private static void status() {
        LiftBank x = of("car 0 1;rider 0 0 1;");
        int[] want = new int[3];
        for (int i = 0; i < 12; i++) {
            int which = i * i % 3 == 0 ? i % 2 : 2;
            if (which == 0) tell(x, "x");
            if (which == 1) x.ticks(0);
            if (which == 2) x.note(9, 9);
            want[which]++;
            for (int k = 0; k < 3; k++) due("STATUS " + k, count(x, 23 + k), want[k]);
        }
        due("another TEXT", tell(x, "car 0 1;"), 0);
        for (int k = 0; k < 3; k++) due("STATUS " + k + " stays", count(x, 23 + k), want[k]);
    }
}
