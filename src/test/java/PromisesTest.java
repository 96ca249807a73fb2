/** Each promise by itself, with answers worked out by hand from the document. */
public final class PromisesTest extends Checks {
    /** Two cars; by POLICY 1 the second RIDER waits for the car that is going away from it. */
    private static final String PAIR = "car 2 4;car 6 4;rider 0 2 7;rider 3 3 0;policy 2;";
    /** One car, which passes a call of the other way, turns, and parks. */
    private static final String TURN = "floors 6;car 0 2;rider 0 3 5;rider 2 4 1 parcel;dwell 1;";
    /** One car for one RIDER alone, which has to pass by. */
    private static final String NARROW = "car 0 1;rider 0 0 3;rider 0 1 3;";

    public static void main(String[] args) {
        newObject();
        feed();
        groupTakesTexts();
        groupAndTheRest();
        counts();
        cars();
        work();
        riders();
        given();
        byTurns();
        costs();
        late();
        ticks();
        come();
        peak();
        out();
        fire();
        fireBegins();
        rule();
        undo();
        ahead();
        when();
        quiet();
        overtaken();
        anew();
        compared();
        homes();
        later();
        noted();
        years();
        image();
        end();
    }

    // --- 1 to 4 ---

    private static void newObject() {
        LiftBank x = new LiftBank();
        int[] want = {8, 0, 0, 2, 0, 1, 0, 0, 0, 0, 0, 0, 0, 0, 0, 0, -1, 0, 1, -1, 0, 0, 0, 0, 0, 0, 0, 0, 0, 0};
        for (int i = 0; i < want.length; i++) due(1, "count(" + i + ")", count(x, i), want[i]);
        due(1, "fault()", x.fault(), -1);
        due(1, "car(0, 0)", car(x, 0, 0), NO_ELEMENT);
        due(1, "rider(0, 0)", rider(x, 0, 0), NO_ELEMENT);
        due(1, "restore()", x.restore(), false);
        due(1, "undo()", x.undo(), -1);
        due(1, "NONE", LiftBank.NONE, -1);
    }

    private static void feed() {
        LiftBank x = new LiftBank();
        int blank = 0x20202020;
        // the highest byte of a number is first: "car " "0 4;" "car " "1 4;" and blanks
        due(2, "feed", x.feed(0x63617220, 0x3020343b, 0x63617220, 0x3120343b, blank), 20);
        for (int i = 2; i <= 45; i++) due(2, "feed " + i, x.feed(blank, blank, blank, blank, blank), 20 * i);
        due(2, "feed 46", x.feed(blank, blank, blank, blank, blank), -1);
        due(2, "bytes", count(x, 22), 900);
        due(2, "group of 900", group(x, 900), 0);
        due(2, "cars", count(x, 1), 2);
        due(2, "home of car 1", car(x, 1, 2), 1);
        due(2, "bytes behind group", count(x, 22), 0);
        due(2, "feed again", x.feed(-1, -1, -1, -1, -1), 20);
        due(2, "a byte of 255 is no token", group(x, 20), 1);
    }

    private static void groupTakesTexts() {
        LiftBank x = of("");
        due(3, "an empty text has 8 floors", count(x, 0), 8);
        x = of(" \n floors\n12;car 11 6parcels;car0 1 persons;car 5 3;rider 0 0 11;rider99 11 0parcel;"
                + "dwell 4;late 11;policy 0;peak 8;\n");
        int[] want = {12, 3, 2, 4, 11, 0, 8, 0};
        for (int i = 0; i < want.length; i++) due(3, "count(" + i + ")", count(x, i), want[i]);
        int[][] cars = {{2, 6, 11, 11}, {1, 1, 0, 0}, {0, 3, 5, 5}};
        for (int c = 0; c < 3; c++) {
            for (int w = 0; w < 4; w++) due(6, "car(" + c + ", " + w + ")", car(x, c, w), cars[c][w]);
        }
        int[][] riders = {{1, 0, 0, 11, 0, -1, 0, -1}, {2, 99, 11, 0, 0, -1, 0, -1}};
        for (int r = 0; r < 2; r++) {
            for (int w = 0; w < 8; w++) due(7, "rider(" + r + ", " + w + ")", rider(x, r, w), riders[r][w]);
        }
        of("dwell 1;late 0;policy 2;peak 0;");
        of("floors 2;car 1 1;car 1 1;car 1 1;car 1 1;" + "rider 1 0 1;".repeat(20));
    }

    private static void groupAndTheRest() {
        LiftBank x = of(PAIR);
        x.ticks(5);
        x.note(0, 7);
        x.image();
        x.ticks(0);
        x.note(9, 9);
        feedText(x, "car 0 1;");
        due(3, "group(21)", group(x, 21), NO_ARGUMENT);
        due(3, "group(-1)", group(x, -1), NO_ARGUMENT);
        due(3, "nothing changes: the tape", count(x, 22), 20);
        due(3, "nothing changes: STATUS", count(x, 23), 0);
        due(3, "a fault", group(x, 3), 1);
        due(4, "its place", x.fault(), 3);
        due(3, "TIME stays", count(x, 7), 5);
        due(3, "ACTS stay", count(x, 20), 1);
        due(3, "NOTED stays", count(x, 21), 1);
        due(4, "of the latest group() that was none", group(x, 1), NO_ARGUMENT);
        due(4, "the place stays", x.fault(), 3);
        due(3, "the image stays", x.restore(), true);
        due(3, "it has STATUS", count(x, 23), 0);
        x.ticks(0);
        due(3, "a text", tell(x, TURN), 0);
        due(4, "no place", x.fault(), -1);
        due(3, "TIME", count(x, 7), 0);
        due(3, "ACTS are gone", count(x, 20), 0);
        due(3, "undo()", x.undo(), -1);
        due(3, "NOTED is gone", count(x, 21), 0);
        due(3, "the image is gone", x.restore(), false);
        due(3, "STATUS stays", count(x, 24), 1);
        due(3, "answers ALL ANEW are of the new text", anew(x, 1, 0, 1), 12);
    }

    // --- 5 to 9 ---

    private static void counts() {
        LiftBank x = of(TURN);
        due(5, "count(-1)", count(x, -1), NO_ELEMENT);
        due(5, "count(30)", count(x, 30), NO_ELEMENT);
        // count 9 WAIT, 10 RIDE, 11 DONE, 12 CALLS, 13 PASSED, 14 WAITED, 16 WORST behind each TICK
        int[][] want = {{1, 0, 0, 1, 0, 1, 0}, {1, 0, 0, 1, 0, 2, 0}, {2, 0, 0, 2, 0, 4, 0}, {1, 1, 0, 1, 0, 5, 0},
            {1, 1, 0, 1, 0, 6, 0}, {1, 1, 0, 1, 0, 7, 1}, {1, 0, 1, 1, 0, 8, 1}, {1, 0, 1, 1, 0, 9, 1},
            {0, 1, 1, 0, 0, 9, 1}, {0, 1, 1, 0, 0, 9, 1}, {0, 1, 1, 0, 0, 9, 1}, {0, 1, 1, 0, 0, 9, 1},
            {0, 0, 2, 0, 0, 9, 1}};
        int[] whats = {9, 10, 11, 12, 13, 14, 16};
        due(5, "WORST at first", count(x, 16), 0);
        for (int[] row : want) {
            int time = x.ticks(1);
            for (int i = 0; i < 7; i++) due(5, "count(" + whats[i] + ") at " + time, count(x, whats[i]), row[i]);
        }
        x = of("car 0 1;rider 0 3 5;rider 0 3 4;rider 0 3 5 parcel;rider 0 3 1;");
        x.ticks(1);
        due(5, "CALLS are of a FLOOR, a WAY, a SORT", count(x, 12), 3);
        due(5, "WORST is the first of like ones", count(x, 16), 0);
    }

    private static void cars() {
        LiftBank x = of(TURN);
        path("promise 6", x, 0, new int[][] {{1, 1, 0}, {2, 1, 0}, {3, 1, 0}, {3, 1, 1}, {4, 1, 0}, {5, 1, 0}, {5, -1, 1},
            {4, -1, 0}, {4, -1, 1}, {3, -1, 0}, {2, -1, 0}, {1, -1, 0}, {1, 0, 1}, {0, 0, 0}, {0, 0, 0}});
        due(6, "car(-1, 0)", car(x, -1, 0), NO_ELEMENT);
        due(6, "car(1, 0)", car(x, 1, 0), NO_ELEMENT);
        due(6, "car(0, -1)", car(x, 0, -1), NO_ELEMENT);
        due(6, "car(0, 10)", car(x, 0, 10), NO_ELEMENT);
        x = of(NARROW);
        x.ticks(1);
        due(6, "aboard", car(x, 0, 6), 1);
        due(6, "no STOPS for CALLS, as it is full", car(x, 0, 8), 8);
        due(6, "it is IN", car(x, 0, 7), 1);
        // from TIME 1: DOORS, then up past FLOOR 1, and back for who waits there
        path("promise 6", x, 0, new int[][] {{0, 1, 1}, {1, 1, 0}, {2, 1, 0}, {3, 1, 0}, {3, -1, 2}, {3, -1, 1}, {2, -1, 0},
            {1, -1, 0}, {1, 1, 2}, {1, 1, 1}, {2, 1, 0}, {3, 1, 0}, {3, 0, 2}});
        due(6, "PASSED", count(x, 13), 1);
        x = of("car 0 2;rider 0 1 3;rider 0 2 3;rider 0 2 0;");
        x.ticks(1);
        due(6, "STOPS of CALLS", car(x, 0, 8), 6);
        x.ticks(1);
        due(6, "one aboard, CALLS at 2 too", car(x, 0, 8), 12);
    }

    private static void work() {
        LiftBank x = of(TURN);
        float work = 0f;
        int[] ups = {0, 0, 0, -1, 1, 1, -1};
        for (int n : ups) {
            work = n < 0 ? work + 0.4f : work + (0.7f + 0.3f * n);
            x.ticks(1);
            due(6, "WORK", car(x, 0, 9), Float.floatToIntBits(work));
        }
        int[] downs = {0, -1, 1, 1, 1, -1, 0};
        for (int n : downs) {
            work = n < 0 ? work + 0.4f : work + (0.2f + 0.1f * n);
            x.ticks(1);
            due(6, "WORK", car(x, 0, 9), Float.floatToIntBits(work));
        }
        due(5, "WORK of all, cut", count(x, 28), (int) work);
        x = of(PAIR);
        due(6, "WORK at first", car(x, 0, 9), 0);
        x.ticks(60);
        // 0.4 and 5.0 and 0.4 and 1.0, then 0.6 and 0.4 and 0.9 and 0.4 and 4.2
        due(5, "WORK of two cars, cut", count(x, 28), 13);
    }

    private static void riders() {
        LiftBank x = of(TURN);
        // what it is, where, WAITED, DONE of RIDER 1 behind each TICK
        int[][] want = {{0, -1, 0, -1}, {0, -1, 0, -1}, {1, 4, 1, -1}, {1, 4, 2, -1}, {1, 4, 3, -1}, {1, 4, 4, -1},
            {1, 4, 5, -1}, {1, 4, 6, -1}, {2, 0, 6, -1}, {2, 0, 6, -1}, {2, 0, 6, -1}, {2, 0, 6, -1}, {3, -1, 6, 12}};
        for (int[] row : want) {
            int time = x.ticks(1);
            for (int i = 0; i < 4; i++) due(7, "rider(1, " + (4 + i) + ") at " + time, rider(x, 1, 4 + i), row[i]);
        }
        due(7, "rider(0, 7)", rider(x, 0, 7), 6);
        due(7, "rider(0, 6)", rider(x, 0, 6), 3);
        due(7, "rider(-1, 0)", rider(x, -1, 0), NO_ELEMENT);
        due(7, "rider(2, 0)", rider(x, 2, 0), NO_ELEMENT);
        due(7, "rider(0, -1)", rider(x, 0, -1), NO_ELEMENT);
        due(7, "rider(0, 8)", rider(x, 0, 8), NO_ELEMENT);
    }

    private static void given() {
        LiftBank x = of("floors 9;car 0 4;car 4 4;car 8 4 persons;rider 0 2 3;rider 0 6 3 parcel;rider 0 6 3;");
        due(8, "nobody waits", given(x, 2, true, 1), -2);
        x.come(2, 8, 2);
        due(8, "GIVEN to none yet", given(x, 2, true, 2), -1);
        x.ticks(1);
        due(8, "the first of like ones", given(x, 2, true, 1), 0);
        due(8, "parcels there too", given(x, 2, true, 2), 0);
        due(8, "persons from 6", given(x, 6, false, 1), 1);
        due(8, "parcels from 6", given(x, 6, false, 2), 1);
        due(8, "the other way", given(x, 6, true, 1), -2);
        due(8, "given(9, ..)", given(x, 9, true, 1), NO_ELEMENT);
        due(8, "given(-1, ..)", given(x, -1, true, 1), NO_ELEMENT);
        due(8, "sort 0", given(x, 0, true, 0), NO_ELEMENT);
        due(8, "sort 3", given(x, 0, true, 3), NO_ELEMENT);
        x = of("car 0 1;car 4 1;rider 0 0 2;rider 0 0 2;rider 0 3 0 parcel;");
        x.ticks(1);
        due(8, "who stays behind is GIVEN to none", given(x, 0, true, 1), -1);
        due(8, "and a car near by has the other", given(x, 3, false, 2), 1);
        x.ticks(1);
        due(8, "then to the nearest again", given(x, 0, true, 1), 0);
        x = of("car 0 1 persons;rider 0 1 2 parcel;");
        x.ticks(2);
        due(8, "no car takes it", given(x, 1, true, 2), -1);
        x = of("car 3 2;car 3 2;rider 0 3 5;rider 0 3 4 parcel;policy 0;");
        x.ticks(1);
        due(8, "car 0 takes both, so a CALL of car 1 is gone", given(x, 3, true, 2), -2);
        due(8, "car 1 has no STOPS", car(x, 1, 8), 0);
    }

    private static void byTurns() {
        LiftBank x = of("car 0 4;car 0 4;car 0 4 parcels;rider 0 2 1;rider 0 1 3;rider 0 3 1;rider 0 4 1 parcel;"
                + "rider 1 5 1;policy 0;late 1;");
        x.ticks(1);
        due(8, "floor 1 up", given(x, 1, true, 1), 0);
        due(8, "floor 2 down", given(x, 2, false, 1), 1);
        due(8, "floor 3 down, past the car for parcels", given(x, 3, false, 1), 0);
        due(8, "floor 4 down", given(x, 4, false, 2), 1);
        x.out(0, true);
        x.ticks(1);
        due(8, "behind the last, of those that are IN, which is there", rider(x, 1, 5), 1);
        due(8, "again", given(x, 5, false, 1), 1);
    }

    private static void costs() {
        LiftBank x = of(PAIR);
        due(9, "there already", cost(x, 0, 2, true, 1), 0);
        due(9, "there already, down", cost(x, 0, 2, false, 2), 0);
        due(9, "four floors", cost(x, 1, 2, true, 1), 4);
        due(9, "the top, up", cost(x, 1, 7, true, 1), 1);
        x.ticks(3);
        due(9, "behind the way up", cost(x, 0, 3, false, 1), 10);
        due(9, "on the way up", cost(x, 0, 3, true, 1), 0);
        due(9, "the other car", cost(x, 1, 3, false, 1), 3);
        x.ticks(1);
        due(9, "so it is GIVEN to that", given(x, 3, false, 1), 1);
        due(9, "no such car", cost(x, 2, 0, true, 1), NO_ELEMENT);
        due(9, "no such car", cost(x, -1, 0, true, 1), NO_ELEMENT);
        due(9, "no such floor", cost(x, 0, 8, true, 1), NO_ELEMENT);
        due(9, "no such floor", cost(x, 0, -1, true, 1), NO_ELEMENT);
        due(9, "no such sort", cost(x, 0, 0, true, 0), NO_ELEMENT);
        due(9, "no such sort", cost(x, 0, 0, true, 3), NO_ELEMENT);
        x.out(1, true);
        due(9, "out", cost(x, 1, 0, true, 1), NO_ARGUMENT);
        due(9, "out, no such floor", cost(x, 1, 8, true, 1), NO_ELEMENT);
        x = of("car 0 1 parcels;rider 0 0 2 parcel;rider 0 0 2 parcel;");
        due(9, "not of its sort", cost(x, 0, 0, true, 1), NO_ARGUMENT);
        x.ticks(1);
        // DOORS 1; DOORS 0 and up; up; it OPENS at 2; DOORS 1; DOORS 0 and down; down
        due(9, "by DOORS and back", cost(x, 0, 0, true, 2), 7);
        // it is full on the way up, so it does not open at 1 until it is back
        due(9, "full on the way", cost(x, 0, 1, true, 2), 6);
        x = of("floors 12;car 0 1;dwell 4;rider 0 11 0;rider 1 1 11;rider 1 2 11;rider 1 3 11;rider 1 4 11;");
        x.ticks(2);
        // DOORS for 3, up from 1 to 11, OPENS, DOORS for 3, down to 0
        due(9, "down to 0", cost(x, 0, 0, false, 1), 3 + 10 + 1 + 3 + 11);
        // each time it is full on the way up, and has calls below on the way down
        due(9, "not within 60", cost(x, 0, 6, true, 1), 60);
    }

    private static void late() {
        for (int late = 0; late < 3; late++) {
            for (int policy = 0; policy < 3; policy++) {
                LiftBank x = of("car 0 4;car 4 4;");
                x.rule(0, policy);
                x.rule(1, late);
                x.out(1, true);
                x.come(3, 0, 1);
                x.ticks(1);
                x.out(1, false);
                due(14, "GIVEN at first", given(x, 3, false, 1), 0);
                x.ticks(1);
                boolean anew = late == 1 && policy != 0;
                due(14, "late " + late + ", policy " + policy, given(x, 3, false, 1), anew ? 1 : 0);
            }
        }
        LiftBank x = of("car 0 4;car 4 4;policy 1;late 1;dwell 4;");
        x.out(1, true);
        x.come(3, 0, 1);
        x.come(0, 7, 1);
        x.ticks(2);
        x.out(1, false);
        x.ticks(2);
        due(14, "not anew while DOORS are open", given(x, 3, false, 1), 0);
        x.ticks(2);
        due(14, "anew behind that", given(x, 3, false, 1), 1);
    }

    // --- 10 to 15 ---

    private static void ticks() {
        LiftBank x = of(TURN);
        due(10, "ticks(0)", x.ticks(0), -1);
        due(10, "ticks(61)", x.ticks(61), -1);
        due(10, "ticks(-1)", x.ticks(-1), -1);
        due(10, "STATUS", count(x, 24), 3);
        due(10, "no ACTS", count(x, 20), 0);
        due(10, "ticks(60)", x.ticks(60), 60);
        due(10, "ticks(1)", x.ticks(1), 61);
        for (int i = 2; i <= 16; i++) due(10, "ticks(60)", x.ticks(60), 60 * i + 1);
        due(10, "TIME would be 1000", x.ticks(39), -1);
        due(10, "TIME 999", x.ticks(38), 999);
        due(10, "no more", x.ticks(1), -1);
        due(10, "TIME", count(x, 7), 999);
        due(10, "STATUS", count(x, 24), 5);
    }

    private static void come() {
        LiftBank x = of(TURN);
        x.ticks(1);
        due(11, "come", x.come(5, 0, 2), 2);
        int[] want = {2, 1, 5, 0, 1, 5, 0, -1};
        for (int i = 0; i < 8; i++) due(11, "rider(2, " + i + ")", rider(x, 2, i), want[i]);
        due(11, "its CALL", given(x, 5, false, 2), -1);
        due(11, "no such FLOOR", x.come(6, 0, 1), -1);
        due(11, "no such FLOOR", x.come(0, 6, 1), -1);
        due(11, "no such FLOOR", x.come(-1, 0, 1), -1);
        due(11, "no such FLOOR", x.come(0, -1, 1), -1);
        due(11, "one FLOOR", x.come(3, 3, 1), -1);
        due(11, "no such SORT", x.come(0, 1, 0), -1);
        due(11, "no such SORT", x.come(0, 1, 3), -1);
        due(11, "STATUS", count(x, 24), 7);
        due(11, "ACTS", count(x, 20), 2);
        for (int i = 3; i < 24; i++) due(11, "come", x.come(i % 6, (i + 1) % 6, 1 + i % 2), i);
        due(11, "there are 24", x.come(0, 1, 1), -1);
        due(11, "RIDERS", count(x, 2), 24);
        x = of("car 0 1;rider 2 0 3;");
        x.ticks(2);
        x.come(0, 5, 1);
        x.ticks(1);
        due(11, "by numbers aboard", rider(x, 0, 4), 2);
        due(11, "who came by hand does not come again", rider(x, 1, 6), 1);
        due(11, "aboard, as bits", car(x, 0, 6), 1);
    }

    private static void peak() {
        LiftBank x = of("car 3 1;peak 2;");
        x.out(0, true);
        x.come(0, 1, 1);
        due(5, "one at FLOOR 0", count(x, 15), 0);
        x.come(0, 1, 1);
        due(5, "two", count(x, 15), 1);
        for (int i = 0; i < 6; i++) x.come(1, 2, 1);
        due(5, "two of the last 8", count(x, 15), 1);
        x.come(1, 0, 1);
        due(5, "one of the last 8", count(x, 15), 0);
        x.come(0, 7, 2);
        due(5, "still one", count(x, 15), 0);
        x.come(0, 7, 2);
        due(5, "two again", count(x, 15), 1);
        x = of("car 3 1;rider 1 0 1 parcel;peak 1;car 0 1 parcels;");
        path("promise 5", x, 0, new int[][] {{3, 0, 0}, {2, 0, 0}, {1, 0, 0}, {0, 0, 0}, {0, 0, 0}});
        due(5, "QUIET in a PEAK", count(x, 29), 2);
        x = of("car 3 1;rider 1 0 1 parcel;car 0 1 parcels;peak 0;");
        x.ticks(5);
        due(5, "no PEAK by 0", count(x, 15), 0);
        due(5, "it stays at HOME", car(x, 0, 3), 3);
        x = of("car 0 1;rider 0 0 2;rider 0 0 3;rider 0 1 2;rider 0 1 3;rider 0 1 4;rider 0 1 5;rider 0 1 6;rider 0 1 7;"
                + "rider 0 2 1;peak 1;");
        x.ticks(1);
        due(5, "of one TIME they come by numbers", count(x, 15), 1);
        x.undo();
        x.come(0, 1, 1);
        x.ticks(1);
        due(5, "by hand it came ahead of them", count(x, 15), 1);
        x.come(4, 1, 1);
        due(5, "the last 8 then", count(x, 15), 0);
    }

    private static void out() {
        LiftBank x = of(TURN);
        x.ticks(5);
        due(12, "out", x.out(0, true), true);
        due(12, "it is OUT", car(x, 0, 7), 0);
        due(12, "aboard none", car(x, 0, 6), 0);
        due(12, "WAY", car(x, 0, 4), 0);
        due(12, "STOPS", car(x, 0, 8), 0);
        due(12, "the RIDER waits there", rider(x, 0, 4), 1);
        due(12, "at 4", rider(x, 0, 5), 4);
        due(12, "its CALL", given(x, 4, true, 1), -1);
        due(12, "the other CALL", given(x, 4, false, 2), -1);
        due(12, "again", x.out(0, true), false);
        due(12, "no such car", x.out(1, true), false);
        due(12, "no such car", x.out(-1, false), false);
        due(12, "STATUS", count(x, 24), 3);
        x.ticks(2);
        due(12, "it does nothing", car(x, 0, 3), 4);
        due(12, "WAITED more", rider(x, 0, 6), 5);
        due(12, "in again", x.out(0, false), true);
        due(12, "it is IN", car(x, 0, 7), 1);
        due(12, "already", x.out(0, false), false);
        x.ticks(1);
        due(12, "it OPENS for up ahead of down", car(x, 0, 6), 1);
        x = of("car 0 2;rider 0 0 3;dwell 4;");
        x.ticks(7);
        due(12, "at 3", car(x, 0, 3), 3);
        due(12, "one aboard", car(x, 0, 6), 1);
        x.out(0, true);
        due(12, "whose TO it is, DONE", rider(x, 0, 4), 3);
        due(12, "at this TIME", rider(x, 0, 7), 7);
        x = of("car 0 2;rider 0 0 3;dwell 4;");
        x.ticks(2);
        x.out(0, true);
        due(12, "DOORS", car(x, 0, 5), 0);
    }

    private static void fire() {
        LiftBank x = of("car 0 4;car 7 1;rider 0 0 4;rider 0 1 0;rider 0 2 0;rider 9 5 6;dwell 1;");
        x.ticks(4);
        due(13, "aboard", car(x, 0, 6), 1);
        due(13, "at 3", car(x, 0, 3), 3);
        due(13, "is over", x.fire(false), false);
        due(13, "begins", x.fire(true), true);
        due(13, "again", x.fire(true), false);
        due(13, "STATUS", count(x, 24), 2);
        due(13, "it burns", count(x, 8), 1);
        due(13, "CALLS stay GIVEN until a TICK", given(x, 1, false, 1), 0);
        int before = car(x, 1, 9);
        path("promise 13", x, 0, new int[][] {{2, -1, 0}});
        due(13, "CALLS are GIVEN to none by a TICK", given(x, 1, false, 1), -1);
        due(13, "STOPS by a TICK", car(x, 0, 8), 1 << 4);
        path("promise 13", x, 0, new int[][] {{1, -1, 0}, {0, -1, 0}, {0, 0, 0}, {0, 0, 0}});
        due(13, "the RIDER waits below", rider(x, 0, 5), 0);
        due(13, "CALLS still GIVEN to none", given(x, 0, true, 1), -1);
        due(13, "the other car came down too", car(x, 1, 3), 2);
        float work = Float.intBitsToFloat(before);
        for (int i = 0; i < 5; i++) work += 0.2f;
        due(13, "and had WORK by it", car(x, 1, 9), Float.floatToIntBits(work));
        x.ticks(1);
        due(13, "RIDERS come in a FIRE", rider(x, 3, 4), 1);
        due(13, "is over", x.fire(false), true);
        x.ticks(1);
        due(13, "CALLS are GIVEN again, to the car at 1", given(x, 5, true, 1), 1);
        x = of("car 3 4;rider 0 3 0;rider 0 3 1;");
        x.ticks(1);
        x.fire(true);
        due(13, "DOORS until a TICK", car(x, 0, 5), 2);
        x.ticks(3);
        due(13, "at 0, aboard still", car(x, 0, 6), 3);
        x.ticks(1);
        due(13, "who has TO 0 is DONE", rider(x, 0, 7), 4);
        due(13, "who hasn't waits", rider(x, 1, 5), 0);
        x = of("car 0 1;rider 0 0 1;dwell 1;");
        x.ticks(3);
        x.fire(true);
        x.ticks(1);
        due(13, "at HOME", car(x, 0, 3), 0);
        due(13, "by the WAY of a FIRE", car(x, 0, 4), -1);
        x.fire(false);
        x.ticks(1);
        due(13, "that is over too", car(x, 0, 4), 0);
        x = of("car 5 4;");
        x.out(0, true);
        x.fire(true);
        x.ticks(2);
        due(13, "OUT it stays", car(x, 0, 3), 5);
        due(13, "QUIET, as it is OUT", count(x, 29), 0);
        x.out(0, false);
        due(13, "QUIET, as it is at HOME still", count(x, 29), 0);
        x.ticks(1);
        due(13, "never QUIET, as it does not PARK", count(x, 29), -1);
    }

    /** FIRE takes CALLS back by its first TICK, not when it begins. */
    private static void fireBegins() {
        LiftBank x = of("floors 6;car 0 2;rider 0 3 5;rider 2 3 4;");
        x.ticks(1);
        x.fire(true);
        due(13, "STOPS until a TICK", car(x, 0, 8), 1 << 3);
        due(13, "GIVEN until a TICK", given(x, 3, true, 1), 0);
        due(13, "COST by its own CALLS until a TICK", cost(x, 0, 5, false, 1), 6);
        due(13, "none of it AHEAD", ahead(x, 60, 0), 0);
        due(13, "over without a TICK", x.fire(false), true);
        due(13, "the CALL was never taken back", given(x, 3, true, 1), 0);
        x.fire(true);
        x.ticks(1);
        due(13, "no STOPS behind a TICK", car(x, 0, 8), 0);
        due(13, "GIVEN to none behind a TICK", given(x, 3, true, 1), -1);
        due(13, "COST by this CALL alone", cost(x, 0, 5, false, 1), 5);
        x.fire(false);
        due(13, "GIVEN to none until a TICK without a FIRE", given(x, 3, true, 1), -1);
        due(13, "undone: over", x.undo(), 5);
        due(13, "undone: the TICK", x.undo(), 4);
        due(13, "GIVEN as ahead of it", given(x, 3, true, 1), 0);

        x = of("car 3 1;rider 0 3 0;rider 0 2 0;dwell 1;");
        x.ticks(2);
        due(13, "full, at 2", car(x, 0, 3), 2);
        due(13, "a CALL there is GIVEN to it", given(x, 2, false, 1), 0);
        x.fire(true);
        x.ticks(1);
        due(13, "which it does not pass in a FIRE", count(x, 13), 0);
    }

    private static void rule() {
        LiftBank x = of(PAIR);
        due(14, "policy was", x.rule(0, 0), 2);
        due(14, "policy was", x.rule(0, 0), 0);
        due(14, "late was", x.rule(1, 11), 0);
        due(14, "policy", count(x, 5), 0);
        due(14, "late", count(x, 4), 11);
        due(14, "ACTS", count(x, 20), 3);
        due(14, "rule(0, 3)", x.rule(0, 3), -1);
        due(14, "rule(0, -1)", x.rule(0, -1), -1);
        due(14, "rule(1, 12)", x.rule(1, 12), -1);
        due(14, "rule(1, -1)", x.rule(1, -1), -1);
        due(14, "rule(2, 0)", x.rule(2, 0), -1);
        due(14, "rule(-1, 0)", x.rule(-1, 0), -1);
        due(14, "STATUS", count(x, 24), 6);
        due(14, "ACTS", count(x, 20), 3);
    }

    private static void undo() {
        LiftBank x = of(PAIR);
        x.ticks(4);
        x.come(0, 1, 1);
        x.out(0, true);
        x.fire(true);
        x.rule(0, 1);
        x.rule(1, 5);
        x.ticks(0);
        due(15, "late", x.undo(), 5);
        due(15, "late is", count(x, 4), 0);
        due(15, "policy", x.undo(), 4);
        due(15, "policy is", count(x, 5), 2);
        due(15, "fire", x.undo(), 3);
        due(15, "no fire", count(x, 8), 0);
        due(15, "given again", given(x, 3, false, 1), 1);
        due(15, "out", x.undo(), 2);
        due(15, "in again", car(x, 0, 7), 1);
        due(15, "aboard again", car(x, 0, 6), 1);
        due(15, "who came", x.undo(), 1);
        due(15, "RIDERS", count(x, 2), 2);
        due(15, "ticks", x.undo(), 0);
        due(15, "TIME", count(x, 7), 0);
        due(15, "WORK", car(x, 0, 9), 0);
        due(15, "none", x.undo(), -1);
        due(15, "STATUS stays", count(x, 24), 1);
        due(15, "all goes on as ever", x.ticks(12), 12);
        due(15, "DONE", rider(x, 1, 7), 11);
        x = of(PAIR);
        for (int i = 1; i <= 43; i++) x.ticks(1);
        due(15, "at most 40", count(x, 20), 40);
        for (int i = 39; i >= 0; i--) due(15, "undo", x.undo(), i);
        due(15, "none", x.undo(), -1);
        due(15, "the latest were kept", count(x, 7), 3);
        x = of("car 0 1;car 0 1;policy 0;");
        x.come(1, 2, 1);
        x.ticks(1);
        x.undo();
        x.ticks(1);
        due(15, "the turn is undone too", given(x, 1, true, 1), 0);
    }

    // --- 16 to 28 ---

    private static void ahead() {
        LiftBank x = of(NARROW);
        due(16, "DONE in 5", ahead(x, 5, 0), 0);
        due(16, "DONE in 6", ahead(x, 6, 0), 1);
        due(16, "DONE in 14", ahead(x, 14, 0), 2);
        due(16, "PASSED in 3", ahead(x, 3, 1), 0);
        due(16, "PASSED in 4", ahead(x, 4, 1), 1);
        due(16, "WAITED in 0", ahead(x, 0, 2), 0);
        due(16, "WAITED in 9", ahead(x, 9, 2), 9);
        due(16, "WAITED in 120", ahead(x, 120, 2), 9);
        due(16, "STOPPED in 1", ahead(x, 1, 3), 1);
        due(16, "STOPPED in 3", ahead(x, 3, 3), 0);
        due(16, "n 121", ahead(x, 121, 0), NO_ARGUMENT);
        due(16, "n -1", ahead(x, -1, 0), NO_ARGUMENT);
        due(16, "what 4", ahead(x, 121, 4), NO_ELEMENT);
        due(16, "what -1", ahead(x, 1, -1), NO_ELEMENT);
        x.ticks(4);
        due(16, "PASSED ever", ahead(x, 0, 1), 1);
        due(16, "all is as ever", count(x, 7), 4);
        x = of(PAIR);
        due(16, "two STOPPED", ahead(x, 8, 3), 2);
    }

    private static void when() {
        LiftBank x = of(NARROW);
        due(17, "when(0)", when(x, 0), 5);
        due(17, "when(1)", when(x, 1), 13);
        due(17, "when(-1)", when(x, -1), NO_ELEMENT);
        due(17, "when(2)", when(x, 2), NO_ELEMENT);
        x.ticks(20);
        due(17, "it is DONE already", when(x, 0), 5);
        x.come(7, 0, 1);
        due(17, "by hand", when(x, 2), 20 + 7 + 1 + 1 + 7);
        due(17, "all is as ever", count(x, 7), 20);
        x = of("car 0 1 persons;rider 0 0 1 parcel;rider 99 0 1;");
        due(17, "never", when(x, 0), -1);
        due(17, "later", when(x, 1), 102);
        x = of("floors 2;dwell 1;rider 0 0 1;");
        due(17, "without cars", when(x, 0), -1);
        x = of(shuttle(0, 8));
        x.ticks(25);
        due(17, "in the 201st TICK", when(x, 7), -1);
        x.ticks(1);
        due(17, "in the 200th TICK", when(x, 7), 225);
    }

    /** One car for one RIDER alone, who is DONE at the first TIME and 15, the next each 30 later. */
    private static String shuttle(int time, int riders) {
        return "floors 12;car 0 1;dwell 4;" + ("rider " + time + " 0 11;").repeat(riders);
    }

    private static void quiet() {
        LiftBank x = of(TURN);
        due(5, "QUIET", count(x, 29), 14);
        x.ticks(10);
        due(5, "QUIET", count(x, 29), 4);
        x.ticks(4);
        due(5, "QUIET", count(x, 29), 0);
        x.come(0, 5, 1);
        due(5, "QUIET", count(x, 29), 1 + 5 + 1 + 5);
        x = of("rider 99 0 1;");
        due(5, "never QUIET without cars", count(x, 29), -1);
        x = of("rider 99 0 1;car 0 1;dwell 1;");
        due(5, "somebody comes still", count(x, 29), 99 + 1 + 1 + 1 + 1);
        x = of(shuttle(0, 7));
        x.ticks(9);
        due(5, "behind 201", count(x, 29), -1);
        x.ticks(1);
        due(5, "behind 200", count(x, 29), 200);
    }

    private static void overtaken() {
        LiftBank x = of("car 0 1;rider 1 3 5;rider 0 3 5;");
        x.ticks(4);
        due(5, "only one aboard yet", count(x, 26), 0);
        x.ticks(30);
        due(5, "the later one was first", count(x, 26), 1);
        x = of("car 0 1;rider 0 3 5;rider 0 3 5;rider 0 3 4;");
        x.ticks(60);
        due(5, "in order", count(x, 26), 0);
        x = of("car 0 1;rider 1 3 5;rider 0 3 5 parcel;rider 0 3 1;rider 0 4 5;rider 2 3 7;");
        x.ticks(60);
        due(5, "all DONE", count(x, 11), 5);
        due(5, "other SORTS, WAYS, FLOORS", count(x, 26), 0);
        x = of("car 0 2;rider 1 3 5;rider 0 3 5;");
        x.ticks(60);
        due(5, "at one TIME", count(x, 26), 0);
        x = of("car 0 1;dwell 1;rider 0 0 7;");
        x.ticks(3);
        x.out(0, true);
        x.come(0, 7, 1);
        x.out(0, false);
        x.ticks(60);
        due(5, "the first time aboard counts", count(x, 26), 0);
    }

    private static void anew() {
        LiftBank x = of(PAIR);
        x.ticks(9);
        x.come(0, 7, 1);
        x.out(0, true);
        x.fire(true);
        int[] done = {11, 18, 11};
        float[] mean = {1.5f, 5f, 1.5f};
        for (int p = 0; p < 3; p++) {
            due(18, "mean(" + p + ", 0)", mean(x, p, 0), Float.floatToIntBits(mean[p]));
            due(19, "DONE by " + p, anew(x, p, 0, 0), 2);
            due(19, "latest by " + p, anew(x, p, 0, 1), done[p]);
            due(19, "PASSED by " + p, anew(x, p, 0, 2), 0);
        }
        due(19, "late 1 by 1", anew(x, 1, 1, 1), 15);
        due(19, "late 3 by 1", anew(x, 1, 3, 1), 15);
        due(19, "late 4 by 1", anew(x, 1, 4, 1), 18);
        due(18, "late 2 by 1", mean(x, 1, 2), Float.floatToIntBits(7f / 2f));
        due(19, "late 11 by 0", anew(x, 0, 11, 1), 11);
        due(18, "mean(3, 0)", mean(x, 3, 0), NO_ARGUMENT);
        due(18, "mean(-1, 0)", mean(x, -1, 0), NO_ARGUMENT);
        due(18, "mean(0, 12)", mean(x, 0, 12), NO_ARGUMENT);
        due(18, "mean(0, -1)", mean(x, 0, -1), NO_ARGUMENT);
        due(19, "anew(3, 0, 0)", anew(x, 3, 0, 0), NO_ARGUMENT);
        due(19, "anew(-1, 0, 0)", anew(x, -1, 0, 0), NO_ARGUMENT);
        due(19, "anew(0, 12, 0)", anew(x, 0, 12, 0), NO_ARGUMENT);
        due(19, "anew(0, -1, 0)", anew(x, 0, -1, 0), NO_ARGUMENT);
        due(19, "anew(3, 0, 3)", anew(x, 3, 0, 3), NO_ELEMENT);
        due(19, "anew(0, 0, -1)", anew(x, 0, 0, -1), NO_ELEMENT);
        x = of(NARROW);
        due(18, "4.5", mean(x, 1, 0), Float.floatToIntBits(4.5f));
        due(19, "PASSED", anew(x, 1, 0, 2), 1);
        x = of("car 0 1 persons;rider 0 0 1 parcel;rider 1 0 1;rider 0 1 0;");
        due(18, "200 and 3 and 1, by 3", mean(x, 1, 0), Float.floatToIntBits(204f / 3f));
        x = of("rider 0 0 1;rider 50 0 1;rider 99 0 1;");
        due(18, "451 by 3", mean(x, 0, 0), Float.floatToIntBits(451f / 3f));
        due(19, "none is DONE", anew(x, 0, 0, 1), -1);
        x = of(shuttle(4, 8));
        due(19, "in the last TICK", anew(x, 1, 0, 0), 7);
        due(19, "in the last TICK", anew(x, 1, 0, 1), 199);
        x = of(shuttle(5, 8));
        due(19, "behind it", anew(x, 1, 0, 0), 6);
        due(19, "behind it", anew(x, 1, 0, 1), 170);
    }

    private static void compared() {
        LiftBank x = of(PAIR);
        due(5, "BEST, the first of like ones", count(x, 17), 0);
        due(5, "THRIFT", count(x, 27), 1);
        due(5, "MISSED", count(x, 19), 0);
        due(5, "ROOM", count(x, 18), 1);
        x = of("car 0 1;car 5 1;rider 0 5 0;");
        due(5, "MISSED", count(x, 19), 1);
        x = of("car 5 1;car 5 1;rider 0 5 0;");
        due(5, "MISSED, the first of like ones", count(x, 19), 0);
        due(5, "THRIFT, the first of like ones", count(x, 27), 0);
        x = of("car 0 1;car 5 1;rider 0 5 0;rider 40 5 0;");
        due(5, "BEST is not by turns", count(x, 17), 1);
        x = of(NARROW);
        due(5, "ROOM", count(x, 18), 2);
        x = of("car 0 6;" + "rider 0 0 3;".repeat(6) + "rider 0 1 3;");
        due(5, "no ROOM", count(x, 18), -1);
        x = of("car 0 6;" + "rider 0 0 3;".repeat(5) + "rider 0 1 3;");
        due(5, "ROOM for 6", count(x, 18), 6);
        // by POLICY 1 and LATE 4 the second RIDER is left to car 0; by LATE 1 it is not
        x = of("car 2 1;car 6 1;rider 0 2 7;rider 3 3 0;late 4;");
        due(5, "PASSED by no car of another WAY", count(x, 18), 1);
        x.rule(1, 1);
        due(5, "BEST by LATE of now", count(x, 17), 0);
    }

    private static void homes() {
        LiftBank x = of("floors 6;car 0 4;rider 0 3 5;");
        due(20, "which", homes(x, 0, 0), 3);
        due(20, "how much", homes(x, 0, 1), 0);
        due(20, "its HOME is as ever", car(x, 0, 2), 0);
        due(20, "no such car", homes(x, 1, 0), NO_ELEMENT);
        due(20, "no such car", homes(x, -1, 0), NO_ELEMENT);
        due(20, "what 2", homes(x, 0, 2), NO_ELEMENT);
        due(20, "what -1", homes(x, 0, -1), NO_ELEMENT);
        x = of("floors 6;car 0 4;rider 0 3 5;rider 0 4 5;");
        // at 3: 0 and 2 DOORS and one FLOOR; at 4: up first, then back for 3
        due(20, "which", homes(x, 0, 0), 3);
        due(20, "how much", homes(x, 0, 1), 3);
        x = of("floors 3;car 1 4;rider 0 0 1;rider 0 2 1;");
        due(20, "of like ones the least", homes(x, 0, 0), 0);
        // 0 for the first; DOORS 2, one FLOOR, TO there, DOORS 2, one FLOOR for the second
        due(20, "how much", homes(x, 0, 1), 6);
        x = of("car 7 1 parcels;car 7 1;rider 0 5 6 parcel;policy 1;");
        x.rule(0, 0);
        due(20, "by POLICY of now", homes(x, 0, 0), 5);
        due(20, "of another car", homes(x, 1, 0), 0);
        due(20, "how much", homes(x, 1, 1), 2);
    }

    private static void later() {
        LiftBank x = of("floors 6;car 0 2;rider 0 0 5;rider 0 3 5;dwell 1;");
        due(21, "later(0)", later(x, 0), 0);
        due(21, "later(1)", later(x, 1), 4);
        x.come(0, 1, 1);
        due(21, "by hand", later(x, 2), NO_ELEMENT);
        due(21, "later(-1)", later(x, -1), NO_ELEMENT);
        x = of("floors 6;car 0 2;rider 95 0 5;rider 97 3 5;dwell 4;");
        due(21, "TIME 99 at most", later(x, 1), 2);
        x = of("floors 12;car 0 2;rider 0 0 11;rider 0 10 11;dwell 4;");
        due(21, "on the way", later(x, 1), 14);
        x = of("floors 12;car 11 2;rider 0 11 0;rider 0 11 0 parcel;rider 0 1 0;rider 0 10 0 parcel;dwell 4;");
        due(21, "it is full and comes back, much later", later(x, 2), 20);
        x = of("floors 12;car 11 6;rider 0 11 0;rider 0 10 0;rider 0 9 0;rider 0 8 0;rider 0 1 0;dwell 4;");
        due(21, "at most 20", later(x, 4), 20);
        x = of("car 0 1 persons;rider 0 1 2 parcel;");
        due(21, "not DONE without", later(x, 0), 0);
    }

    private static void noted() {
        LiftBank x = of(PAIR);
        due(23, "all fit", fits(x, 0), 36);
        due(23, "the first", fits(x, 1), 0);
        due(24, "which", look(x, 0), 1);
        due(24, "how many unlike", look(x, 1), 3);
        due(22, "note", x.note(1, 15), 1);
        due(23, "by policy 1, late 1 to 3", fits(x, 0), 3);
        due(23, "the first", fits(x, 1), 13);
        due(24, "all alike", look(x, 0), 0);
        due(24, "one", look(x, 1), 1);
        due(22, "note", x.note(0, 7), 2);
        due(23, "still", fits(x, 0), 3);
        due(22, "note", x.note(0, 8), 3);
        due(23, "none fit", fits(x, 0), 0);
        due(23, "no first", fits(x, 1), -1);
        due(24, "nowhere", look(x, 0), -1);
        due(24, "none", look(x, 1), 0);
        x.forget();
        due(25, "forgotten", count(x, 21), 0);
        due(25, "all fit", fits(x, 0), 36);
        x.note(1, 18);
        due(23, "late 0, 4 to 11", fits(x, 0), 9);
        due(23, "the first", fits(x, 1), 12);
        x.forget();
        x.note(1, 11);
        due(23, "policies 0 and 2", fits(x, 0), 24);
        due(22, "no such rider", x.note(2, 0), -1);
        due(22, "no such rider", x.note(-1, 0), -1);
        due(22, "time 200", x.note(0, 200), -1);
        due(22, "time -1", x.note(0, -1), -1);
        x.come(0, 1, 1);
        due(22, "by hand", x.note(2, 0), -1);
        due(22, "STATUS", count(x, 25), 5);
        due(22, "time 0", x.note(0, 0), 2);
        due(22, "time 199", x.note(0, 199), 3);
        for (int i = 4; i <= 8; i++) due(22, "note", x.note(0, 7), i);
        due(22, "there are 8", x.note(0, 7), -1);
        due(22, "NOTED", count(x, 21), 8);
        due(22, "STATUS", count(x, 25), 6);
        due(22, "no ACT", count(x, 20), 1);
        due(23, "what 2", fits(x, 2), NO_ELEMENT);
        due(23, "what -1", fits(x, -1), NO_ELEMENT);
        due(24, "what 2", look(x, 2), NO_ELEMENT);
        due(24, "what -1", look(x, -1), NO_ELEMENT);
        // by POLICY 1 a parcel that no car takes is never DONE, which is a likeness too
        x = of("car 0 1 persons;rider 0 1 2 parcel;");
        due(24, "not DONE by any", look(x, 1), 1);
    }

    private static int seed;

    private static int draw(int n) {
        seed = seed * 1103515245 + 12345;
        return (seed >>> 16 & 0x7fff) % n;
    }

    private static void years() {
        int[] seeds = {1, 0, -1, Integer.MAX_VALUE, Integer.MIN_VALUE, 77};
        for (int s : seeds) {
            yearsBySeed(PAIR, s);
            yearsBySeed("floors 3;car 1 2 parcels;rider 0 0 2;dwell 1;", s);
        }
        LiftBank x = of(PAIR);
        due(26, "n 21", years(x, 1, 21, 0), NO_ARGUMENT);
        due(26, "n -1", years(x, 1, -1, 0), NO_ARGUMENT);
        due(26, "what 3", years(x, 1, 21, 3), NO_ELEMENT);
        due(26, "what -1", years(x, 1, 1, -1), NO_ELEMENT);
        x = of("floors 2;car 0 1;" + "rider 0 0 1;".repeat(20));
        due(26, "24 at most", years(x, 5, 20, 0) <= 24, true);
    }

    private static void yearsBySeed(String text, int s) {
        LiftBank x = of(text);
        x.ticks(6);
        LiftBank y = of(text);
        y.ticks(6);
        int floors = y.count(0);
        int riders = y.count(2);
        int done = y.count(11);
        int waited = y.count(14);
        int passed = y.count(13);
        seed = s;
        for (int n = 0; n <= 20; n++) {
            due(26, "DONE by " + s + ", " + n, years(x, s, n, 0), y.count(11));
            due(26, "WAITED by " + s + ", " + n, years(x, s, n, 1), y.count(14) - waited);
            due(26, "PASSED by " + s + ", " + n, years(x, s, n, 2), y.count(13) - passed);
            int from = draw(floors);
            int to = draw(floors - 1);
            y.come(from, to < from ? to : to + 1, draw(2) == 1 ? 2 : 1);
            y.ticks(draw(8) + 1);
        }
        due(26, "all is as ever", count(x, 11), done);
        due(26, "all is as ever", count(x, 7), 6);
        due(26, "all is as ever", count(x, 2), riders);
    }

    private static void image() {
        LiftBank x = of(PAIR);
        due(28, "none", x.restore(), false);
        x.ticks(2);
        x.note(1, 11);
        x.rule(1, 4);
        x.ticks(0);
        x.image();
        x.ticks(5);
        x.come(0, 7, 1);
        x.out(1, true);
        x.fire(true);
        x.rule(0, 1);
        x.rule(1, 9);
        x.forget();
        x.note(5, 5);
        x.note(0, 15);
        x.ticks(0);
        feedText(x, "car");
        due(28, "restored", x.restore(), true);
        int[] want = {8, 2, 2, 2, 4, 2, 0, 2, 0, 0, 1, 0, 0, 0, 0};
        for (int i = 0; i < want.length; i++) due(28, "count(" + i + ")", count(x, i), want[i]);
        due(28, "ACTS", count(x, 20), 2);
        due(28, "NOTED", count(x, 21), 1);
        due(28, "the tape is no part of it", count(x, 22), 20);
        due(28, "STATUS", count(x, 24), 1);
        due(28, "STATUS", count(x, 25), 0);
        due(28, "what is NOTED", fits(x, 0), 24);
        due(28, "car 1 is IN", car(x, 1, 7), 1);
        due(28, "undo", x.undo(), 1);
        due(28, "late", count(x, 4), 0);
        due(28, "undo", x.undo(), 0);
        due(28, "TIME", count(x, 7), 0);
        due(28, "CARS", count(x, 1), 2);
        due(28, "RIDERS", count(x, 2), 2);
        x.ticks(60);
        x.forget();
        x.note(0, 14);
        due(28, "again", x.restore(), true);
        due(28, "what is NOTED", fits(x, 0), 24);
        due(28, "TIME", count(x, 7), 2);
        due(28, "undo", x.undo(), 1);
        x.image();
        x.ticks(1);
        due(27, "in place of another one", x.restore(), true);
        due(27, "ACTS", count(x, 20), 1);
        due(27, "late", count(x, 4), 0);
        // riders by hand that others took the numbers of
        x = of("car 0 1;");
        x.come(0, 3, 1);
        x.come(4, 3, 2);
        x.image();
        x.undo();
        x.undo();
        x.come(7, 6, 2);
        x.come(6, 5, 1);
        x.restore();
        due(28, "rider 0", rider(x, 0, 3), 3);
        due(28, "rider 1", rider(x, 1, 2), 4);
        x.undo();
        due(28, "rider 0", rider(x, 0, 2), 0);
        due(28, "rider 1 is none", rider(x, 1, 2), NO_ELEMENT);
    }
}
