/** The edges of CARS, RIDERS, CALLS and TICKS, which section 2 of the document names; all worked out by hand. */
public final class LiftEdgesTest extends Checks {
    public static void main(String[] args) {
        fullHasNoStopsOfCalls();
        fullDoesNotOpenForCalls();
        aboardTillFull();
        fullLetsOutAndTakesIn();
        asManyAsAreThen();
        passed();
        noWay();
        callsOfTheOtherWay();
        wayWhenItOpens();
        wayWhenItGoes();
        lowestAndHighestFloor();
        sortsAndCalls();
        callsOfOtherCars();
        work();
        waited();
        parks();
        late();
        orderOfCalls();
        byTurns();
        ofLikeOnesTheFirst();
        noCarTakesIt();
        costWithin60();
        costAsIfAlone();
        costWithoutThoseAboard();
        costByItsWay();
        peak();
        peakOfWhoCame();
        fire();
        fireTakesAllCallsBack();
        fullBehindAFire();
        fireAndOut();
        out();
        overtaken();
        acts();
        actsAreUndone();
        whoComesInPlaceOfAnother();
        end();
    }

    // --- a full CAR ---

    private static void fullHasNoStopsOfCalls() {
        for (int capacity = 1; capacity <= 6; capacity++) {
            String own = "car 0 " + capacity + ";rider 0 5 7;";
            LiftBank x = of(own + "rider 0 0 7;".repeat(capacity - 1));
            x.ticks(1);
            int stops = capacity == 1 ? 1 << 5 : 1 << 7 | 1 << 5;
            due("STOPS with one place of " + capacity + " left", car(x, 0, 8), stops);
            x = of(own + "rider 0 0 7;".repeat(capacity));
            x.ticks(1);
            due("STOPS, full of " + capacity, car(x, 0, 8), 1 << 7);
            due("though the CALL is GIVEN to it", given(x, 5, true, 1), 0);
        }
    }

    private static void fullDoesNotOpenForCalls() {
        LiftBank x = of("car 0 1;dwell 1;rider 0 0 4;rider 0 2 4;");
        path("full", x, 0, new int[][] {{0, 1, 1}, {1, 1, 0}, {2, 1, 0}, {3, 1, 0}, {4, 1, 0}, {4, -1, 1}, {3, -1, 0},
            {2, -1, 0}, {2, 1, 1}});
        due("PASSED at 2", count(x, 13), 1);
        x = of("car 0 2;dwell 1;rider 0 0 4;rider 0 2 4;");
        path("not full", x, 0, new int[][] {{0, 1, 1}, {1, 1, 0}, {2, 1, 0}, {2, 1, 1}, {3, 1, 0}, {4, 1, 0}});
        due("nothing PASSED", count(x, 13), 0);
    }

    /** By numbers, whoever came first. */
    private static void aboardTillFull() {
        LiftBank x = of("car 0 2;rider 0 0 3;rider 0 0 4;rider 0 0 5;");
        x.ticks(1);
        due("two of three aboard", car(x, 0, 6), 3);
        due("the third WAITS", rider(x, 2, 4), 1);
        due("the CALL is GIVEN to none", given(x, 0, true, 1), -1);
        x.ticks(1);
        due("and again by the next TICK", given(x, 0, true, 1), 0);
        x = of("car 0 6;" + "rider 0 0 3;".repeat(6));
        x.ticks(1);
        due("six of six aboard", car(x, 0, 6), 63);
        due("no CALL", given(x, 0, true, 1), -2);
        x = of("car 2 1;rider 1 0 3;rider 0 0 4;");
        x.ticks(3);
        due("the lower number, which came later", car(x, 0, 6), 1);
    }

    private static void fullLetsOutAndTakesIn() {
        LiftBank x = of("car 0 1;dwell 1;rider 0 0 2;rider 0 2 4;");
        path("full, TO is here", x, 0, new int[][] {{0, 1, 1}, {1, 1, 0}, {2, 1, 0}, {2, 1, 1}});
        due("the first is DONE", rider(x, 0, 7), 3);
        due("the second is aboard", car(x, 0, 6), 2);
        due("nothing PASSED", count(x, 13), 0);
    }

    /** A STOP ahead counts with as many aboard as are then: behind those who get out. */
    private static void asManyAsAreThen() {
        LiftBank x = of("car 0 1;dwell 1;rider 0 0 3;rider 0 5 6;");
        path("the CALL at 5 is ahead", x, 0, new int[][] {{0, 1, 1}, {1, 1, 0}, {2, 1, 0}, {3, 1, 0}, {3, 1, 1},
            {4, 1, 0}});
        x = of("car 0 1;dwell 1;rider 0 0 3;rider 0 1 2;");
        x.ticks(4);
        path("the CALL at 1 is behind", x, 0, new int[][] {{3, -1, 1}, {2, -1, 0}});
    }

    /** Full, and a CALL where it was, of its WAY, is GIVEN to it. */
    private static void passed() {
        LiftBank x = of("car 0 1;dwell 1;rider 0 0 4;rider 0 1 4;rider 0 2 4;");
        int[] want = {0, 0, 1, 2, 2, 2};
        for (int p : want) {
            int time = x.ticks(1);
            due("PASSED at TIME " + time, count(x, 13), p);
        }
        x = of("car 0 1;dwell 1;rider 0 0 4;rider 0 2 0;");
        x.ticks(5);
        due("a CALL of the other WAY", count(x, 13), 0);
        x = of("car 0 1;dwell 1;rider 0 0 4;rider 0 1 4;rider 0 1 4 parcel;");
        x.ticks(5);
        due("persons and parcels at one FLOOR", count(x, 13), 1);
        x = of("car 0 1;car 7 1;dwell 1;policy 0;rider 0 0 4;rider 0 2 4;");
        x.ticks(5);
        due("by another CAR", count(x, 13), 0);
        due("which the CALL is GIVEN to", given(x, 2, true, 1), 1);
        x = of("car 5 1;dwell 1;rider 0 5 0;rider 0 3 5;rider 0 3 5 parcel;");
        x.ticks(6);
        due("down, CALLS up", count(x, 13), 0);
        x = of("car 5 1;dwell 1;rider 0 5 0;rider 0 3 0;");
        x.ticks(4);
        due("down too", count(x, 13), 1);
        x.undo();
        due("undone", count(x, 13), 0);
    }

    // --- its WAY ---

    private static void noWay() {
        LiftBank x = of("car 3 2;rider 0 3 0;rider 0 3 5;");
        path("WAY 0, CALLS of both WAYS here: up", x, 0, new int[][] {{3, 1, 2}});
        due("only who goes up is aboard", car(x, 0, 6), 2);
        due("the CALL up is gone", given(x, 3, true, 1), -2);
        due("the CALL down is GIVEN to it still", given(x, 3, false, 1), 0);
        path("WAY 0, a CALL down", of("car 3 2;rider 0 3 0;"), 0, new int[][] {{3, -1, 2}});
        path("WAY 0, STOPS above and below", of("car 3 2;rider 0 2 0;rider 0 7 0;"), 0, new int[][] {{4, 1, 0}});
        path("WAY 0, a STOP below", of("car 3 2;rider 0 2 0;"), 0, new int[][] {{2, -1, 0}});
        path("WAY 0, no STOPS", of("car 3 2;"), 0, new int[][] {{3, 0, 0}, {3, 0, 0}});
        path("WAY 0 behind the last one", of("car 0 1;dwell 1;rider 0 0 1;"), 0,
                new int[][] {{0, 1, 1}, {1, 1, 0}, {1, 0, 1}, {0, 0, 0}, {0, 0, 0}});
    }

    /** It OPENS for them, if no STOPS are ahead by its WAY. */
    private static void callsOfTheOtherWay() {
        LiftBank x = of("car 0 2;dwell 1;rider 0 4 5;rider 0 2 0;");
        path("a STOP is ahead", x, 0, new int[][] {{1, 1, 0}, {2, 1, 0}, {3, 1, 0}, {4, 1, 0}, {4, 1, 1}});
        x = of("car 0 2;dwell 1;rider 0 2 0;");
        path("none is ahead", x, 0, new int[][] {{1, 1, 0}, {2, 1, 0}, {2, -1, 1}});
        due("who goes down is aboard", car(x, 0, 6), 1);
        x = of("car 7 2;dwell 1;rider 0 3 1;rider 0 5 7;");
        path("down: a STOP is ahead", x, 0, new int[][] {{6, -1, 0}, {5, -1, 0}, {4, -1, 0}, {3, -1, 0}, {3, -1, 1}});
        x = of("car 7 2;dwell 1;rider 0 5 7;");
        path("down: none is ahead", x, 0, new int[][] {{6, -1, 0}, {5, -1, 0}, {5, 1, 1}});
    }

    private static void wayWhenItOpens() {
        LiftBank x = of("car 5 2;dwell 1;rider 0 3 6;rider 0 3 0;");
        path("it stays for a CALL of that WAY", x, 0, new int[][] {{4, -1, 0}, {3, -1, 0}, {3, -1, 1}});
        due("who goes down is aboard", car(x, 0, 6), 2);
        due("the CALL up is GIVEN to it still", given(x, 3, true, 1), 0);
        x = of("car 0 2;dwell 1;rider 0 0 3;rider 1 3 1;rider 1 5 4;");
        x.ticks(4);
        path("it stays for a STOP ahead, not for a CALL of the other WAY", x, 0, new int[][] {{3, 1, 1}, {4, 1, 0}});
        due("that still WAITS", given(x, 3, false, 1), 0);
        x = of("car 0 2;dwell 1;rider 0 0 4;rider 3 1 2;");
        x.ticks(5);
        path("the other one, if a STOP is behind", x, 0, new int[][] {{4, -1, 1}, {3, -1, 0}});
        x = of("car 7 2;dwell 1;rider 0 7 4;rider 3 6 5;");
        x.ticks(4);
        path("from down to up", x, 0, new int[][] {{4, 1, 1}, {5, 1, 0}});
    }

    /** Another CAR takes its CALL at 5, so that no STOP is ahead any more. */
    private static void wayWhenItGoes() {
        String text = "car 0 2;car 6 3;dwell 1;policy 0;rider 0 5 0;rider 0 6 5;rider 0 6 0;";
        LiftBank x = of(text);
        path("0, as none is behind, and it PARKS", x, 0, new int[][] {{1, 1, 0}, {2, 1, 0}, {3, 1, 0}, {2, 0, 0},
            {1, 0, 0}, {0, 0, 0}, {0, 0, 0}});
        due("all went by the other one", count(x, 11) + Integer.bitCount(car(x, 1, 6)), 3);
        x = of(text + "rider 1 1 0;");
        path("it turns, as one is behind", x, 0, new int[][] {{1, 1, 0}, {2, 1, 0}, {3, 1, 0}, {2, -1, 0}, {1, -1, 0},
            {1, -1, 1}});
    }

    private static void lowestAndHighestFloor() {
        LiftBank x = of("floors 2;car 1 1;dwell 1;rider 0 0 1;rider 3 1 0;");
        int[] stops = {1, 2, 2, 1, 1, 0, 0};
        int[][] rows = {{0, -1, 0}, {0, 1, 1}, {1, 1, 0}, {1, -1, 1}, {0, -1, 0}, {0, 0, 1}, {1, 0, 0}};
        for (int i = 0; i < rows.length; i++) {
            path("two FLOORS", x, 0, new int[][] {rows[i]});
            due("STOPS at TIME " + (i + 1), car(x, 0, 8), stops[i]);
        }
        x = of("floors 12;car 0 1;rider 0 11 0;");
        x.ticks(1);
        due("the highest is a STOP", car(x, 0, 8), 1 << 11);
        due("a CALL there", given(x, 11, false, 1), 0);
        x.ticks(10);
        path("it OPENS there", x, 0, new int[][] {{11, -1, 2}});
        due("the lowest is a STOP", car(x, 0, 8), 1);
        x = of("floors 12;car 0 1;");
        due("COST at the lowest, down", cost(x, 0, 0, false, 1), 0);
        due("COST at the highest, up", cost(x, 0, 11, true, 1), 11);
        due("COST at the highest, down", cost(x, 0, 11, false, 2), 11);
    }

    private static void sortsAndCalls() {
        LiftBank x = of("car 2 2 persons;car 7 2;dwell 1;rider 0 2 4;rider 0 2 4 parcel;");
        x.ticks(1);
        due("persons alone come aboard", car(x, 0, 6), 1);
        due("their CALL is gone", given(x, 2, true, 1), -2);
        due("parcels WAIT for the other CAR", given(x, 2, true, 2), 1);
        x = of("car 2 2 parcels;dwell 1;rider 0 2 4;rider 0 2 4 parcel;");
        x.ticks(1);
        due("parcels alone come aboard", car(x, 0, 6), 2);
        due("no CAR takes persons", given(x, 2, true, 1), -1);
        x = of("car 2 2;car 2 2;dwell 1;rider 0 2 4;rider 0 2 4 parcel;rider 0 2 1;policy 0;");
        x.ticks(1);
        due("by numbers of CARS, both SORTS", car(x, 0, 6), 3);
        due("the CALL that was GIVEN to the other CAR too is gone", given(x, 2, true, 2), -2);
        due("CALLS of the other WAY stay GIVEN", given(x, 2, false, 1), 0);
    }

    /** CALLS where it OPENS, of its WAY and the SORTS it takes, are GIVEN to none, whichever CAR had them. */
    private static void callsOfOtherCars() {
        String[] kinds = {";", " persons;", " parcels;"};
        for (int sort = 0; sort <= 2; sort++) {
            for (int up = 0; up <= 1; up++) {
                // CAR 0 brings one of two from 0 to 5, while CAR 1, which is nearer to 5, brings one from 6 to 11
                String kind = sort == 2 ? " parcel;" : ";";
                StringBuilder text = new StringBuilder("floors 12;dwell 1;");
                text.append("car ").append(up == 1 ? 0 : 11).append(" 2").append(kinds[sort]);
                text.append("car ").append(up == 1 ? 6 : 5).append(" 2;");
                goes(text, up, 0, 5, kind);
                goes(text, up, 0, 11, kind);
                goes(text, up, 6, 11, ";");
                for (int twice = 0; twice < 2; twice++) {
                    goes(text, up, 5, 7, ";");
                    goes(text, up, 5, 7, " parcel;");
                }
                goes(text, up, 5, 0, ";");
                goes(text, up, 5, 0, " parcel;");
                checkCallsOfOtherCars(of(text.toString()), sort, up == 1);
            }
        }
    }

    /** A RIDER of TIME 0, upside down if not up. */
    private static void goes(StringBuilder text, int up, int from, int to, String kind) {
        text.append("rider 0 ").append(up == 1 ? from : 11 - from);
        text.append(' ').append(up == 1 ? to : 11 - to).append(kind);
    }

    private static void checkCallsOfOtherCars(LiftBank x, int sort, boolean up) {
        String by = "by SORT " + sort + (up ? " up" : " down");
        int floor = up ? 5 : 6;
        x.ticks(6);
        for (int s = 1; s <= 2; s++) {
            due(by + ": to CAR 1", given(x, floor, up, s), 1);
            due(by + ": to CAR 1, the other WAY", given(x, floor, !up, s), 1);
        }
        x.ticks(1);
        due(by + ": it OPENS there", car(x, 0, 3) * 10 + car(x, 0, 5), floor * 10 + 1);
        due(by + ": with one place for two of a SORT", Integer.bitCount(car(x, 0, 6)), 2);
        due(by + ": persons", given(x, floor, up, 1), sort == 2 ? 1 : -1);
        due(by + ": parcels", given(x, floor, up, 2), sort == 1 ? 1 : -1);
        for (int s = 1; s <= 2; s++) due(by + ": the other WAY stays", given(x, floor, !up, s), 1);
    }

    // --- WORK, WAITED, where it PARKS ---

    private static void work() {
        for (int load = 0; load <= 6; load++) {
            float times = 0.3f * load;
            float up = 0.7f + times;
            times = 0.1f * load;
            float down = 0.2f + times;
            String riders = load == 0 ? "rider 0 2 1;" : "rider 0 0 2;".repeat(load);
            LiftBank x = of("floors 3;car 0 6;dwell 1;" + riders);
            float work = load == 0 ? 0f : 0.4f;
            x.ticks(load == 0 ? 2 : 3);
            work = work + up;
            work = work + up;
            due("WORK two FLOORS up with " + load, car(x, 0, 9), Float.floatToIntBits(work));
            riders = load == 0 ? "rider 0 0 1;" : "rider 0 2 0;".repeat(load);
            x = of("floors 3;car 2 6;dwell 1;" + riders);
            work = load == 0 ? 0f : 0.4f;
            x.ticks(load == 0 ? 2 : 3);
            work = work + down;
            work = work + down;
            due("WORK two FLOORS down with " + load, car(x, 0, 9), Float.floatToIntBits(work));
        }
        LiftBank x = of("car 0 1;car 3 1;");
        x.ticks(60);
        due("none where it PARKS", car(x, 1, 9), 0);
        due("WORK of all CARS", count(x, 28), 0);
        // one FLOOR up, then down again in a FIRE: 0.7, 0.9, 1.1
        x = of("car 1 1;rider 0 2 0;");
        x.ticks(1);
        due("WORK of 0.7, cut", count(x, 28), 0);
        x.fire(true);
        x.ticks(1);
        due("WORK of 0.9, cut", count(x, 28), 0);
        x.ticks(1);
        due("WORK of 1.1, cut", count(x, 28), 1);
    }

    /** Who comes aboard by the TICK of its TIME has not WAITED; who WAITS behind it has WAITED one. */
    private static void waited() {
        LiftBank x = of("car 0 1;rider 2 0 3;rider 2 1 3;");
        x.ticks(2);
        due("not YET", rider(x, 0, 4), 0);
        due("nowhere", rider(x, 0, 5), -1);
        due("no CALL", given(x, 0, true, 1), -2);
        x.ticks(1);
        due("RIDES at once", rider(x, 0, 4), 2);
        due("not WAITED", rider(x, 0, 6), 0);
        due("the other one WAITED", rider(x, 1, 6), 1);
        due("WAITED together", count(x, 14), 1);
        due("WORST", count(x, 16), 1);
        x = of("rider 0 0 1;rider 0 1 0;rider 3 0 1;");
        x.ticks(60);
        due("without CARS", count(x, 14), 60 + 60 + 57);
        due("WORST, of like ones the first", count(x, 16), 0);
    }

    private static void parks() {
        // the CAR is at 3, and no STOP is left: HOME is above, below, here
        path("up", of("car 5 1;rider 0 3 2;dwell 1;"), 0, new int[][] {{4, -1, 0}, {3, -1, 0}, {3, -1, 1}, {2, -1, 0},
            {2, 0, 1}, {3, 0, 0}, {4, 0, 0}, {5, 0, 0}, {5, 0, 0}});
        path("down", of("car 1 1;rider 0 2 3;dwell 1;"), 0, new int[][] {{2, 1, 0}, {2, 1, 1}, {3, 1, 0}, {3, 0, 1},
            {2, 0, 0}, {1, 0, 0}, {1, 0, 0}});
        path("here", of("car 3 1;rider 0 2 3;dwell 1;"), 0, new int[][] {{2, -1, 0}, {2, 1, 1}, {3, 1, 0}, {3, 0, 1},
            {3, 0, 0}});
    }

    // --- how CALLS are GIVEN ---

    /** More than LATE FLOORS away, above or below: so many more are, so many are not. */
    private static void late() {
        for (int late = 1; late <= 9; late++) {
            for (int policy = 1; policy <= 2; policy++) {
                String rules = "floors 12;policy " + policy + ";late " + late + ";";
                lateFrom(rules, 0, late + 1, false);
                lateFrom(rules, 0, late + 2, true);
                lateFrom(rules, 11, 10 - late, false);
                lateFrom(rules, 11, 9 - late, true);
            }
        }
        String rules = "floors 12;policy 1;late ";
        lateFrom(rules + "0;", 0, 11, false);
        lateFrom(rules + "10;", 0, 11, false);
        lateFrom(rules + "11;", 0, 11, false);
        lateFrom("floors 12;policy 0;late 1;", 0, 11, false);
    }

    /** By the second TICK the CAR from HOME is one FLOOR nearer to the CALL, at which the other one is IN then. */
    private static void lateFrom(String rules, int home, int floor, boolean anew) {
        LiftBank x = of(rules + "car " + home + " 4;car " + floor + " 4;");
        x.out(1, true);
        x.come(floor, floor == 0 ? 1 : 0, 1);
        x.ticks(1);
        x.out(1, false);
        boolean up = floor == 0;
        due(rules + " GIVEN at first", given(x, floor, up, 1), 0);
        x.ticks(1);
        due(rules + " from " + home + " to " + floor, rider(x, 0, 4), anew ? 2 : 1);
        due(rules + " the CALL", given(x, floor, up, 1), anew ? -2 : 0);
    }

    /** By FLOORS, of each up ahead of down, persons ahead of parcels, whoever came first. */
    private static void orderOfCalls() {
        String text = "floors 12;policy 0;" + "car 5 1;".repeat(4);
        LiftBank x = of(text);
        x.come(8, 0, 2);
        x.come(8, 0, 1);
        x.come(8, 11, 2);
        x.come(8, 11, 1);
        x.ticks(1);
        due("up, persons", given(x, 8, true, 1), 0);
        due("up, parcels", given(x, 8, true, 2), 1);
        due("down, persons", given(x, 8, false, 1), 2);
        due("down, parcels", given(x, 8, false, 2), 3);
        x = of(text);
        x.come(11, 10, 1);
        x.come(10, 11, 1);
        x.come(1, 0, 1);
        x.come(0, 1, 2);
        x.ticks(1);
        due("FLOOR 0", given(x, 0, true, 2), 0);
        due("FLOOR 1", given(x, 1, false, 1), 1);
        due("FLOOR 10", given(x, 10, true, 1), 2);
        due("FLOOR 11", given(x, 11, false, 1), 3);
    }

    /** POLICY 0: the next one behind the one that it GAVE to last, all around, CAR 0 first. */
    private static void byTurns() {
        LiftBank x = of("floors 12;car 0 1;car 0 1;car 0 1;policy 0;");
        int[] all = {0, 1, 2, 0, 1};
        for (int i = 0; i < 5; i++) givenTo("all around", x, 11 - i, 1, all[i]);
        x = of("floors 12;car 0 1;car 0 1;car 0 1;policy 0;");
        x.out(0, true);
        int[] in = {1, 2, 1, 2};
        for (int i = 0; i < 4; i++) givenTo("CAR 0 is OUT", x, 11 - i, 1, in[i]);
        x.out(0, false);
        givenTo("and IN again", x, 7, 1, 0);
        x = of("floors 12;car 0 1 persons;car 0 1 parcels;car 0 1;policy 0;");
        int[] sorts = {2, 1, 1, 2, 2};
        int[] takes = {1, 2, 0, 1, 2};
        for (int i = 0; i < 5; i++) givenTo("whose SORT takes it", x, 11 - i, sorts[i], takes[i]);
        x = of("floors 12;car 0 1;car 0 1 parcels;policy 0;");
        for (int i = 0; i < 3; i++) givenTo("again the same, if no other takes it", x, 11 - i, 1, 0);
        x = of("floors 12;car 0 1 persons;car 0 1 persons;policy 0;");
        givenTo("the first", x, 11, 1, 0);
        givenTo("to none", x, 10, 2, -1);
        givenTo("so the turn stays", x, 9, 1, 1);
        x = of("floors 12;car 0 1;car 0 1;car 11 1;policy 0;");
        givenTo("CAR 0", x, 10, 1, 0);
        givenTo("CAR 1", x, 9, 1, 1);
        x.rule(0, 1);
        x.come(11, 0, 1);
        x.ticks(1);
        due("by POLICY 1 CAR 2 takes one", car(x, 2, 6), 4);
        x.rule(0, 0);
        givenTo("behind the one that POLICY 0 GAVE to last", x, 8, 1, 2);
    }

    private static void givenTo(String what, LiftBank x, int floor, int sort, int car) {
        x.come(floor, 0, sort);
        x.ticks(1);
        due("by turns: " + what + ", FLOOR " + floor, given(x, floor, false, sort), car);
    }

    private static void ofLikeOnesTheFirst() {
        for (int policy = 1; policy <= 2; policy++) {
            String rest = "rider 0 4 5;policy " + policy + ";";
            givenByTick("one below, one above", "car 2 1;car 6 1;" + rest, 0);
            givenByTick("one above, one below", "car 6 1;car 2 1;" + rest, 0);
            givenByTick("two behind a farther one", "car 0 1;car 6 1;car 2 1;" + rest, 1);
            givenByTick("the last is nearest", "car 0 1;car 7 1;car 2 1;" + rest, 2);
            givenByTick("the nearest does not take it", "car 1 1;car 2 1 parcels;car 0 1;" + rest, 0);
        }
    }

    private static void givenByTick(String what, String text, int car) {
        LiftBank x = of(text);
        x.ticks(1);
        due(what + ": " + text, given(x, 4, true, 1), car);
    }

    /** No CAR is IN and takes the SORT: a CALL is GIVEN to none. */
    private static void noCarTakesIt() {
        for (int policy = 0; policy <= 2; policy++) {
            for (int late = 0; late <= 3; late += 3) {
                String rules = "policy " + policy + ";late " + late + ";";
                LiftBank x = of(rules + "car 0 1 persons;car 6 1 parcels;rider 0 3 4 parcel;");
                x.out(1, true);
                x.ticks(2);
                due("to none", given(x, 3, true, 2), -1);
                due("WAITED", rider(x, 0, 6), 2);
                due("the other CAR stays", car(x, 0, 3), 0);
                x.out(1, false);
                due("IN, but no TICK", given(x, 3, true, 2), -1);
                x.ticks(1);
                due("to the one that takes it", given(x, 3, true, 2), 1);
                x.out(1, true);
                due("OUT, so to none at once", given(x, 3, true, 2), -1);
                x.ticks(1);
                due("and not to the other", given(x, 3, true, 2), -1);
            }
        }
        LiftBank x = of("car 0 1;car 6 1;rider 0 4 5;");
        x.ticks(1);
        due("to the nearer one", given(x, 4, true, 1), 1);
        x.out(1, true);
        x.ticks(1);
        due("to the one that is IN", given(x, 4, true, 1), 0);
        x.out(0, true);
        x.ticks(1);
        due("all OUT", given(x, 4, true, 1), -1);
        x = of("rider 0 4 5;");
        x.ticks(3);
        due("no CARS", given(x, 4, true, 1), -1);
    }

    // --- COST ---

    /** 11 - f TICKS up, 11 times DOORS for 4, 11 FLOORS down: 66 - f from FLOOR f. */
    private static void costWithin60() {
        StringBuilder text = new StringBuilder("floors 12;car 0 6;dwell 4;");
        for (int f = 11; f >= 2; f--) text.append("rider 0 ").append(f).append(' ').append(f - 1).append(';');
        LiftBank x = of(text.toString());
        int[] want = {60, 60, 60, 60, 60, 60, 59, 58, 57, 56};
        for (int i = 0; i < want.length; i++) {
            x.ticks(1);
            due("FLOOR", car(x, 0, 3), i + 1);
            due("COST from FLOOR " + (i + 1), cost(x, 0, 0, true, 1), want[i]);
        }
        due("it OPENS there by either WAY", cost(x, 0, 0, false, 1), 56);
    }

    private static void costAsIfAlone() {
        LiftBank x = of("car 0 1;rider 5 2 7;");
        due("no RIDERS come any more", cost(x, 0, 4, true, 1), 4);
        x = of("car 0 1;car 6 1;dwell 1;rider 0 5 7;");
        x.ticks(1);
        due("CALLS of another CAR", given(x, 5, true, 1), 1);
        due("are none of its STOPS", cost(x, 0, 7, true, 1), 7);
        x = of("floors 12;car 0 2;car 5 2 parcels;dwell 1;policy 0;rider 0 3 4;rider 0 3 6 parcel;");
        x.ticks(1);
        due("a CALL of its own", given(x, 3, true, 1), 0);
        due("a CALL of another CAR, where it OPENS", given(x, 3, true, 2), 1);
        // up to 3, OPENS for both; to 4, OPENS; to 6, OPENS; to 8
        due("both come aboard, as no other CAR is there", cost(x, 0, 8, true, 1), 2 + 1 + 1 + 1 + 2 + 1 + 2);
        due("all is as ever", car(x, 0, 3), 1);
        due("nobody is aboard", car(x, 0, 6), 0);
        x = of("car 0 2;dwell 3;rider 0 0 1;");
        due("it is there", cost(x, 0, 0, true, 1), 0);
        x.ticks(1);
        // DOORS 2, DOORS 1, OPENS
        due("its DOORS are open already", cost(x, 0, 0, true, 1), 2);
        x = of("car 0 1;dwell 3;rider 0 0 1;");
        x.ticks(1);
        // DOORS 2, DOORS 1, up; OPENS at 1, DOORS 2, DOORS 1, down; OPENS
        due("and it is full", cost(x, 0, 0, true, 1), 7);
    }

    /** Who came aboard once, as COST foretells it, does not WAIT there any more. */
    private static void costWithoutThoseAboard() {
        LiftBank x = of("floors 12;car 5 1;dwell 1;rider 0 0 4;rider 0 4 0;");
        x.ticks(1);
        due("at 4", car(x, 0, 3), 4);
        // OPENS at 4, full; down to 0, OPENS; full, up to 4, OPENS; down to 2 with nobody
        due("COST of up at 2", cost(x, 0, 2, true, 1), 1 + 4 + 1 + 4 + 1 + 2);
    }

    /** It OPENS at 3 on the way up too, but not with the WAY of a CALL down. */
    private static void costByItsWay() {
        LiftBank x = of("floors 12;car 0 2;dwell 1;rider 0 0 3;rider 0 0 6;");
        x.ticks(1);
        due("COST of up at 3", cost(x, 0, 3, true, 1), 3);
        due("COST of down at 3", cost(x, 0, 3, false, 1), 3 + 1 + 3 + 1 + 3);
    }

    // --- PEAK ---

    /** PEAK or more of the last 8 RIDERS that came, or of all, if fewer did. */
    private static void peak() {
        for (int peak = 1; peak <= 8; peak++) {
            LiftBank x = of("car 3 1 parcels;peak " + peak + ";");
            for (int i = 1; i <= peak; i++) {
                due("PEAK " + peak + ": fewer came at FLOOR 0", count(x, 15), 0);
                x.come(0, 1, 1);
            }
            due("PEAK " + peak + ": so many did", count(x, 15), 1);
            for (int i = peak; i < 8; i++) {
                x.come(1, 0, 1);
                due("PEAK " + peak + ": of the last 8", count(x, 15), 1);
            }
            x.come(1, 0, 1);
            due("PEAK " + peak + ": the first is none of the last 8", count(x, 15), 0);
        }
        LiftBank x = of("car 3 1 parcels;peak 0;");
        for (int i = 0; i < 8; i++) x.come(0, 1, 1);
        due("PEAK 0", count(x, 15), 0);
        x.ticks(1);
        due("PEAK 0: it stays at HOME", car(x, 0, 3), 3);
        x = of("car 2 1 parcels;peak 1;");
        x.come(0, 1, 1);
        path("it PARKS at 0", x, 0, new int[][] {{1, 0, 0}, {0, 0, 0}, {0, 0, 0}});
        for (int i = 0; i < 8; i++) x.come(1, 0, 1);
        path("and at HOME again", x, 0, new int[][] {{1, 0, 0}, {2, 0, 0}, {2, 0, 0}});
        x.undo();
        due("undone, not yet a PEAK", count(x, 15), 0);
        for (int i = 0; i < 3; i++) x.undo();
        due("undone, a PEAK", count(x, 15), 1);
    }

    private static void peakOfWhoCame() {
        LiftBank x = of("car 3 1 parcels;peak 1;rider 1 0 1;");
        x.ticks(1);
        due("it is not YET there", count(x, 15), 0);
        x.ticks(1);
        due("it came", count(x, 15), 1);
        x = of("car 0 1;peak 2;rider 0 0 1;");
        x.ticks(1);
        x.out(0, true);
        due("it WAITS at 0 again", given(x, 0, true, 1), -1);
        due("but came once", count(x, 15), 0);
        x = of("car 1 1;peak 1;dwell 1;rider 0 1 2;");
        x.ticks(1);
        x.fire(true);
        x.ticks(2);
        due("out by a FIRE, it WAITS at 0", given(x, 0, true, 1), -1);
        due("but came at 1", count(x, 15), 0);
        x.come(0, 1, 2);
        due("RIDERS come in a FIRE", count(x, 15), 1);
    }

    // --- FIRE and OUT ---

    private static void fire() {
        LiftBank x = of("car 1 1;dwell 1;rider 0 1 0;");
        x.ticks(2);
        due("at 0 already", car(x, 0, 3), 0);
        x.fire(true);
        due("who has TO 0 still RIDES", rider(x, 0, 4), 2);
        path("at 0", x, 0, new int[][] {{0, 0, 0}, {0, 0, 0}});
        due("who has TO 0 is DONE at that TIME", rider(x, 0, 7), 2);
        due("DONE", count(x, 11), 1);
        x = of("car 3 1;dwell 3;rider 0 3 1;");
        x.ticks(1);
        x.fire(true);
        path("from 3, DOORS open", x, 0, new int[][] {{2, -1, 0}, {1, -1, 0}, {0, -1, 0}});
        due("TO was on the way, but it RIDES", rider(x, 0, 4), 2);
        float work = 0.4f;
        for (int i = 0; i < 3; i++) work = work + (0.2f + 0.1f);
        due("WORK by it", car(x, 0, 9), Float.floatToIntBits(work));
        path("at 0", x, 0, new int[][] {{0, 0, 0}});
        due("it WAITS", rider(x, 0, 4), 1);
        due("at 0", rider(x, 0, 5), 0);
        due("has WAITED by that TICK", rider(x, 0, 6), 1);
        due("its WAY is up now", given(x, 0, true, 1), -1);
        due("not down", given(x, 0, false, 1), -2);
        x.fire(false);
        path("over: it OPENS at 0", x, 0, new int[][] {{0, 1, 3}});
        due("and it RIDES again", rider(x, 0, 4), 2);
    }

    private static void fireTakesAllCallsBack() {
        for (int floor = 0; floor < 12; floor++) {
            LiftBank x = of("floors 12;car " + (floor + 6) % 12 + " 1;");
            for (int sort = 1; sort <= 2; sort++) {
                if (floor < 11) x.come(floor, 11, sort);
                if (floor > 0) x.come(floor, 0, sort);
            }
            int[] want = {0, 0, -1};
            for (int i = 0; i < 3; i++) {
                if (i == 1) x.fire(true);
                else x.ticks(1);
                for (int sort = 1; sort <= 2; sort++) {
                    String what = "FLOOR " + floor + ", SORT " + sort + ", step " + i;
                    due("up, " + what, given(x, floor, true, sort), floor < 11 ? want[i] : -2);
                    due("down, " + what, given(x, floor, false, sort), floor > 0 ? want[i] : -2);
                }
                due("STOPS, step " + i, car(x, 0, 8), i < 2 ? 1 << floor : 0);
            }
        }
    }

    /** A FIRE takes a CAR away from TO of all aboard: full, it turns to that, whatever CALL is ahead. */
    private static void fullBehindAFire() {
        for (int capacity = 1; capacity <= 2; capacity++) {
            LiftBank x = of("car 3 " + capacity + ";dwell 1;rider 0 3 6;rider 0 1 0;");
            path("up", x, 0, new int[][] {{3, 1, 1}, {4, 1, 0}});
            x.fire(true);
            path("down by a FIRE", x, 0, new int[][] {{3, -1, 0}});
            x.fire(false);
            boolean full = capacity == 1;
            path("CAPACITY " + capacity, x, 0, new int[][] {{full ? 4 : 2, full ? 1 : -1, 0}});
            due("the CALL at 1 is GIVEN to it", given(x, 1, false, 1), 0);
            due("nothing PASSED", count(x, 13), 0);
        }
    }

    private static void fireAndOut() {
        LiftBank x = of("floors 6;car 3 2;car 5 1;dwell 4;rider 0 3 5;rider 0 3 4;");
        x.ticks(1);
        x.fire(true);
        x.out(0, true);
        due("OUT in a FIRE: at once", car(x, 0, 6), 0);
        due("they WAIT at 3", given(x, 3, true, 1), -1);
        path("OUT it stays", x, 0, new int[][] {{3, 0, 0}});
        due("the other one goes down", car(x, 1, 3), 4);
        x.out(0, false);
        path("IN again it goes down", x, 0, new int[][] {{2, -1, 0}, {1, -1, 0}, {0, -1, 0}, {0, 0, 0}});
        due("CALLS are GIVEN to none", given(x, 3, true, 1), -1);
        due("who WAITS does so", count(x, 14), 2 * 5);
    }

    private static void out() {
        LiftBank x = of("car 0 3;dwell 1;rider 0 0 2;rider 0 0 4;rider 0 0 2 parcel;");
        x.ticks(3);
        due("at 2", car(x, 0, 3), 2);
        due("not yet OPEN", car(x, 0, 6), 7);
        int work = car(x, 0, 9);
        x.out(0, true);
        due("two are DONE", count(x, 11), 2);
        due("at this TIME", rider(x, 0, 7), 3);
        due("parcels too", rider(x, 2, 7), 3);
        due("one WAITS", rider(x, 1, 5), 2);
        due("its CALL", given(x, 2, true, 1), -1);
        int[] want = {2, 0, 0, 0, 0, 0};
        for (int w = 3; w <= 8; w++) due("car(0, " + w + ")", car(x, 0, w), want[w - 3]);
        due("its WORK is as ever", car(x, 0, 9), work);
        due("WAITED no more by it", rider(x, 1, 6), 0);
        x.ticks(10);
        due("nothing happens to it", car(x, 0, 9), work);
        due("who WAITS does so", rider(x, 1, 6), 10);
        x.out(0, false);
        path("IN again, from there", x, 0, new int[][] {{2, 1, 1}, {3, 1, 0}});
        x = of("car 7 2;car 0 2;dwell 1;rider 0 7 2;rider 0 3 4;rider 1 7 0;");
        x.ticks(1);
        x.out(0, true);
        due("a CALL of the other CAR stays GIVEN", given(x, 3, true, 1), 1);
        due("who was aboard WAITS", given(x, 7, false, 1), -1);
        x.ticks(1);
        due("with who comes there it is one CALL", count(x, 12), 2);
    }

    // --- OVERTAKEN, ACTS ---

    private static void overtaken() {
        overtakenBy("by TIME", "car 0 1;rider 1 3 5;rider 0 3 4;", 1);
        overtakenBy("down", "car 0 1;rider 1 3 1;rider 0 3 2;", 1);
        overtakenBy("parcels", "car 0 1;rider 1 3 5 parcel;rider 0 3 5 parcel;", 1);
        overtakenBy("of other SORTS", "car 0 1;rider 1 3 5 parcel;rider 0 3 5;", 0);
        overtakenBy("one up, one down", "car 0 1;rider 1 3 5;rider 0 3 2;", 0);
        overtakenBy("from other FLOORS", "car 0 1;rider 1 3 5;rider 0 4 5;", 0);
        overtakenBy("of one TIME, by number", "car 0 1;rider 0 3 5;rider 0 3 5;", 0);
        overtakenBy("aboard at one TIME", "car 0 2;rider 1 3 5;rider 0 3 5;", 0);
        overtakenBy("three pairs", "car 0 1;rider 2 3 5;rider 1 3 5;rider 0 3 5;", 3);
        overtakenBy("none came aboard", "car 0 1 persons;rider 1 3 5 parcel;rider 0 3 5 parcel;", 0);
        LiftBank x = of("car 0 1;rider 1 3 5;rider 0 3 5;");
        x.ticks(4);
        due("the later one is aboard", car(x, 0, 6), 1);
        due("both must have come aboard", count(x, 26), 0);
        x.ticks(9);
        due("both have", count(x, 26), 1);
        x.undo();
        due("undone", count(x, 26), 0);
        // the first one is put out at 2, and WAITS there until CAR 1 comes back from the second one's TO
        x = of("car 0 1;car 0 1;dwell 1;rider 0 0 7;");
        x.ticks(3);
        x.out(0, true);
        x.come(0, 7, 1);
        x.ticks(1);
        due("the second one is aboard", car(x, 1, 6), 2);
        due("the first one is not", rider(x, 0, 5), 2);
        x.ticks(60);
        due("all DONE", count(x, 11), 2);
        due("the first time aboard counts", count(x, 26), 0);
    }

    private static void overtakenBy(String what, String text, int pairs) {
        LiftBank x = of(text);
        x.ticks(60);
        due("OVERTAKEN " + what, count(x, 26), pairs);
    }

    /** Each kind is kept; at most 40, the latest ones. */
    private static void acts() {
        LiftBank x = of("car 0 1;");
        x.ticks(1);
        x.come(0, 1, 1);
        x.out(0, true);
        x.out(0, false);
        x.fire(true);
        x.fire(false);
        x.rule(0, 1);
        x.rule(1, 0);
        due("eight kinds", count(x, 20), 8);
        x.note(0, 1);
        x.forget();
        x.image();
        x.ahead(1, 0);
        x.years(1, 1, 0);
        due("no ACTS", count(x, 20), 8);
        for (int i = 9; i <= 40; i++) x.rule(1, i % 12);
        due("40", count(x, 20), 40);
        x.rule(1, 11);
        due("41, of which 40 are kept", count(x, 20), 40);
        x.rule(1, 10);
        for (int left = 39; left >= 0; left--) due("UNDONE", x.undo(), left);
        due("no more", x.undo(), -1);
        due("the first two are not UNDONE: TIME", count(x, 7), 1);
        due("the first two are not UNDONE: RIDERS", count(x, 2), 1);
        due("the third is", car(x, 0, 7), 1);
        x.ticks(2);
        due("one again", count(x, 20), 1);
        due("which is UNDONE", x.undo(), 0);
        due("TIME", count(x, 7), 1);
    }

    /** The last one first; each leaves all as it was ahead of it. */
    private static void actsAreUndone() {
        LiftBank x = of("car 3 1;dwell 2;rider 0 3 5;rider 0 3 6;late 2;policy 1;");
        x.ticks(60);
        due("UNDONE: TICKS", x.undo(), 0);
        due("TIME", count(x, 7), 0);
        due("not YET", rider(x, 0, 4), 0);
        due("WAITED", rider(x, 1, 6), 0);
        due("WORK", car(x, 0, 9), 0);
        x.ticks(1);
        x.come(7, 6, 2);
        due("UNDONE: who came", x.undo(), 1);
        due("RIDERS", count(x, 2), 2);
        due("no CALL", given(x, 7, false, 2), -2);
        x.out(0, true);
        due("UNDONE: OUT", x.undo(), 1);
        due("aboard again", car(x, 0, 6), 1);
        due("DOORS", car(x, 0, 5), 2);
        due("WAY", car(x, 0, 4), 1);
        x.out(0, true);
        x.out(0, false);
        due("UNDONE: IN", x.undo(), 2);
        due("OUT", car(x, 0, 7), 0);
        x.undo();
        x.fire(true);
        x.fire(false);
        due("UNDONE: over", x.undo(), 2);
        due("it burns", count(x, 8), 1);
        due("UNDONE: FIRE", x.undo(), 1);
        due("none", count(x, 8), 0);
        x.rule(0, 2);
        x.rule(1, 9);
        due("UNDONE: LATE", x.undo(), 2);
        due("LATE", count(x, 4), 2);
        due("UNDONE: POLICY", x.undo(), 1);
        due("POLICY", count(x, 5), 1);
    }

    /** By hand, with a number that another one had, who is UNDONE or not in the IMAGE. */
    private static void whoComesInPlaceOfAnother() {
        for (int by = 0; by < 2; by++) {
            LiftBank x = of("car 0 1;dwell 1;");
            x.image();
            x.come(0, 3, 1);
            x.ticks(20);
            due("DONE", rider(x, 0, 7), 4);
            goBack(x, by == 0);
            due("come", x.come(5, 6, 2), 0);
            int[] want = {2, 0, 5, 6, 1, 5, 0, -1};
            for (int w = 0; w < 8; w++) due("rider(0, " + w + ")", rider(x, 0, w), want[w]);
            x = of("car 3 1;dwell 1;rider 1 3 7;");
            x.image();
            x.come(3, 7, 1);
            x.ticks(2);
            due("who came by hand is aboard", car(x, 0, 6), 2);
            goBack(x, by == 0);
            x.ticks(2);
            due("who was told is aboard", car(x, 0, 6), 1);
            x.come(3, 6, 1);
            due("the other one was not yet", count(x, 26), 0);
        }
    }

    private static void goBack(LiftBank x, boolean byUndo) {
        if (byUndo) {
            x.undo();
            x.undo();
        } else {
            x.restore();
        }
        due("TIME", count(x, 7), 0);
    }
}
