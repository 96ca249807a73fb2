/** The edges of a TEXT, which section 1 of the document names: what is just right, and what is just too much. */
public final class TextEdgesTest extends Checks {
    private static final String CARS = "car 0 1;".repeat(4);
    private static final String RIDERS = "rider 0 0 1;".repeat(20);

    public static void main(String[] args) {
        floors();
        floorsOfCarsAndRiders();
        cars();
        riders();
        settings();
        withoutSettings();
        length();
        tapeAndText();
        tokens();
        standsThere();
        endsTooSoon();
        secondSettings();
        sameFloor();
        firstAlongTheText();
        leastOfOneToken();
        end();
    }

    // --- help ---

    /** The sign ^ stands ahead of the TOKEN of the FAULT, and is no part of the TEXT. */
    private static void fault(int code, String marked) {
        int place = marked.indexOf('^');
        LiftBank x = of("floors 3;car 0 1;car 1 1;");
        due("FAULT of " + marked, tell(x, marked.substring(0, place) + marked.substring(place + 1)), code);
        due("place of the FAULT of " + marked, x.fault(), place);
        due("STATUS behind " + marked, count(x, 23), 1);
        due("FLOORS stay behind " + marked, count(x, 0), 3);
        due("CARS stay behind " + marked, count(x, 1), 2);
        due("RIDERS stay behind " + marked, count(x, 2), 0);
    }

    private static void count(String text, int what, int want) {
        due("count(" + what + ") of " + text, count(of(text), what), want);
    }

    private static void car(String text, int what, int want) {
        due("car(0, " + what + ") of " + text, car(of(text), 0, what), want);
    }

    private static void rider(String text, int what, int want) {
        due("rider(0, " + what + ") of " + text, rider(of(text), 0, what), want);
    }

    // --- what is told ---

    /** FLOORS: 2 to 12; 8 without. */
    private static void floors() {
        count("", 0, 8);
        count("floors 2;", 0, 2);
        count("floors 02;", 0, 2);
        count("floors 12;", 0, 12);
        fault(2, "floors ^0;");
        fault(2, "floors ^1;");
        fault(2, "floors ^13;");
        fault(2, "floors ^99;");
        fault(2, "floors ^008;");
        fault(2, "floors ^100;");
    }

    /** HOME, FROM and TO are FLOORS that there are, the lowest and the highest too. */
    private static void floorsOfCarsAndRiders() {
        String[] floors = {"floors 2;", "", "floors 12;"};
        int[] above = {2, 8, 12};
        for (int i = 0; i < 3; i++) {
            int top = above[i] - 1;
            car(floors[i] + "car 0 1;", 2, 0);
            car(floors[i] + "car " + top + " 1;", 2, top);
            rider(floors[i] + "rider 0 0 " + top + ";", 3, top);
            rider(floors[i] + "rider 0 " + top + " 0;", 2, top);
            fault(3, floors[i] + "car ^" + above[i] + " 1;");
            fault(3, floors[i] + "rider 0 ^" + above[i] + " 0;");
            fault(3, floors[i] + "rider 0 0 ^" + above[i] + ";");
        }
        fault(3, "car ^99 1;");
        fault(3, "rider 0 ^99 1;");
        fault(3, "rider 0 0 ^99;");
    }

    /** At most 4 CARS, CAPACITY 1 to 6, for all, for persons, for parcels. */
    private static void cars() {
        count("", 1, 0);
        count(CARS, 1, 4);
        fault(2, CARS + "^car 0 1;");
        fault(2, CARS + RIDERS + "dwell 1;^car");
        car("car 0 1;", 1, 1);
        car("car 0 6;", 1, 6);
        car("car 0 06;", 1, 6);
        fault(2, "car 0 ^0;");
        fault(2, "car 0 ^7;");
        fault(2, "car 0 ^99;");
        fault(2, "car 0 ^001;");
        car("car 0 1;", 0, 0);
        car("car 0 1 persons;", 0, 1);
        car("car 0 1 parcels;", 0, 2);
        for (int w = 3; w < 10; w++) car("car 0 1;", w, w == 7 ? 1 : 0);
        car("car 5 1;", 3, 5);
    }

    /** At most 20 RIDERS told, TIME 0 to 99, persons or parcels. */
    private static void riders() {
        count("", 2, 0);
        count(RIDERS, 2, 20);
        fault(2, RIDERS + "^rider 0 0 1;");
        fault(2, RIDERS + CARS + "^rider");
        rider("rider 0 0 1;", 1, 0);
        rider("rider 00 0 1;", 1, 0);
        rider("rider 99 0 1;", 1, 99);
        fault(2, "rider ^100 0 1;");
        fault(2, "rider ^000 0 1;");
        rider("rider 0 0 1;", 0, 1);
        rider("rider 0 0 1 parcel;", 0, 2);
    }

    /** DWELL 1 to 4, LATE 0 to 11, POLICY 0 to 2, PEAK 0 to 8. */
    private static void settings() {
        String[] words = {"dwell", "late", "policy", "peak"};
        int[] low = {1, 0, 0, 0};
        int[] high = {4, 11, 2, 8};
        for (int i = 0; i < 4; i++) {
            for (int v = low[i]; v <= high[i]; v++) count(words[i] + " " + v + ";", 3 + i, v);
            fault(2, words[i] + " ^" + (high[i] + 1) + ";");
            fault(2, words[i] + " ^99;");
            fault(2, words[i] + " ^001;");
            fault(2, words[i] + " ^100;");
        }
        fault(2, "dwell ^0;");
    }

    /** 8 FLOORS, DWELL 2, LATE 0, POLICY 1, PEAK 0 without: anew by each TEXT. */
    private static void withoutSettings() {
        LiftBank x = of("floors 12;dwell 4;late 11;policy 2;peak 8;" + CARS + RIDERS);
        int[] told = {12, 4, 20, 4, 11, 2, 8};
        for (int i = 0; i < 7; i++) due("count(" + i + ") as told", count(x, i), told[i]);
        due("the next TEXT", tell(x, "car 0 1;"), 0);
        int[] without = {8, 1, 0, 2, 0, 1, 0};
        for (int i = 0; i < 7; i++) due("count(" + i + ") without", count(x, i), without[i]);
    }

    // --- the tape ---

    /** A TEXT of at most 900 bytes, and an empty one. */
    private static void length() {
        String blanks = " ".repeat(891);
        count(blanks + "\ncar 0 1;", 1, 1);
        count("car 0 1;" + blanks + "\n", 1, 1);
        fault(1, "car 0 1;" + blanks + "^x");
        fault(1, "car 0 1;" + blanks.substring(2) + "car^");
        fault(1, "car 0 1;" + blanks.substring(4) + "car 0^");
        fault(1, "car 0 1;" + blanks + "^0");
        fault(1, "car 0 1;" + blanks + "^;");
        LiftBank x = of("floors 3;car 0 1;rider 0 0 1;dwell 1;");
        x.ticks(5);
        due("an empty TEXT", group(x, 0), 0);
        int[] want = {8, 0, 0, 2, 0, 1, 0, 0};
        for (int i = 0; i < want.length; i++) due("count(" + i + ") of an empty TEXT", count(x, i), want[i]);
        count(" \n\n ", 0, 8);
    }

    /** The tape's first n bytes are the TEXT; then it is empty. IllegalArgumentException: it has not so many. */
    private static void tapeAndText() {
        LiftBank x = new LiftBank();
        due("an empty tape has not one", group(x, 1), NO_ARGUMENT);
        due("feed", feedText(x, "car 0 1;car 1 1;...."), 20);
        int[] none = {21, 900, 901, -1, Integer.MIN_VALUE, Integer.MAX_VALUE};
        for (int n : none) {
            due("group(" + n + ") of 20", group(x, n), NO_ARGUMENT);
            due("the tape stays", count(x, 22), 20);
            due("no STATUS", count(x, 23), 0);
        }
        due("of its first 16", group(x, 16), 0);
        due("two CARS", count(x, 1), 2);
        due("the rest is gone", count(x, 22), 0);
        feedText(x, "car 0 1;car 1 1;....");
        due("of its first 8", group(x, 8), 0);
        due("one CAR", count(x, 1), 1);
        feedText(x, "car 0 1;car 1 1;....");
        due("of its first 15", group(x, 15), 1);
        due("which ends too soon", x.fault(), 15);
        due("behind a FAULT it is empty too", count(x, 22), 0);
        feedText(x, "car 0 1;car 1 1;....");
        due("of all 20", group(x, 20), 1);
        due("at the first that is none", x.fault(), 16);
        due("one CAR as before", count(x, 1), 1);
        due("STATUS", count(x, 23), 2);
        feedText(x, "dwell 3;");
        due("a TEXT without a FAULT", group(x, 8), 0);
        due("its place is NONE again", x.fault(), -1);
        // what is behind the n bytes makes no row longer
        cut("car 0 12;", 7, 1, 7);
        cut("car 0 123;", 6, 1, 6);
        cut("dwell 22;", 7, 1, 7);
        cut("car 0 1 persons;", 14, 1, 8);
        cut("carcar 0 1;", 3, 1, 3);
        cut("car 0 1;1", 8, 0, -1);
    }

    private static void cut(String text, int n, int code, int place) {
        LiftBank x = new LiftBank();
        feedText(x, text);
        due(n + " bytes of " + text, group(x, n), code);
        due("place of its FAULT", x.fault(), place);
    }

    // --- TOKENS ---

    private static void tokens() {
        // the longest row
        fault(1, "^carcar 0 1;");
        fault(1, "^cars 0 1;");
        fault(1, "^carz 0 1;");
        fault(1, "^zcar 0 1;");
        fault(1, "^ca 0 1;");
        fault(1, "^ca r 0 1;");
        fault(1, "^floor 3;");
        fault(1, "^acar 0 1;");
        fault(1, "^cat 0 1;");
        fault(1, "^bar 0 1;");
        fault(1, "^z;");
        fault(2, "car 0 ^123;");
        fault(2, "rider 0 0 ^0000000000000000001;");
        fault(2, "rider ^4294967296 0 1;");
        fault(1, "dwell 1 ^2;");
        // blanks count for nothing, and need not stand where no row would be longer by it
        car("car0 1persons;", 0, 1);
        car("\n car \n 0 \n\n 1 \n parcels \n ; \n", 0, 2);
        rider("rider99 0 1parcel;", 0, 2);
        rider("rider 9\n0 1;", 1, 9);
        // no other sign is one
        String[] none = {"\t", "\r", "\0", "\u00e9", "\u00ff", "\u00a0", "-", ".", ",", ":", "_", "/", "{", "`", "A",
            "Z", "@", "["};
        for (String sign : none) {
            fault(1, "car 0 1^" + sign + ";");
            fault(1, "^" + sign);
            fault(1, "dwell ^" + sign + "2;");
            fault(1, "car^" + sign + " 0 1;");
            fault(1, "car 0^" + sign + " 1;");
        }
        fault(1, "car ^-1 1;");
        fault(1, "^Car 0 1;");
        fault(1, "^cAR 0 1;");
    }

    /** FAULT 1: a TOKEN that can't stand there. */
    private static void standsThere() {
        fault(1, "^;");
        fault(1, "car 0 1;^;");
        fault(1, "^0;");
        fault(1, "^12;");
        fault(1, "^persons;");
        fault(1, "^parcels;");
        fault(1, "^parcel;");
        fault(1, "floors ^;");
        fault(1, "floors ^floors 3;");
        fault(1, "floors 3 ^4;");
        fault(1, "floors 3 ^car 0 1;");
        fault(1, "car ^;");
        fault(1, "car ^car 0 1;");
        fault(1, "car 0^;");
        fault(1, "car 0 ^persons;");
        fault(1, "car 0 1 ^1;");
        fault(1, "car 0 1 ^parcel;");
        fault(1, "car 0 1 persons ^parcels;");
        fault(1, "car 0 1 parcels ^parcels;");
        fault(1, "car 0 1 parcels ^2;");
        fault(1, "car 0 1 ^car 0 1;");
        fault(1, "rider ^;");
        fault(1, "rider 0^;");
        fault(1, "rider 0 1^;");
        fault(1, "rider 0 0 ^parcel;");
        fault(1, "rider 0 0 1 ^parcels;");
        fault(1, "rider 0 0 1 ^persons;");
        fault(1, "rider 0 0 1 parcel ^parcel;");
        fault(1, "rider 0 0 1 ^2;");
        String[] words = {"dwell", "late", "policy", "peak"};
        for (String word : words) {
            fault(1, word + "^;");
            fault(1, word + " ^" + word + ";");
            fault(1, word + " 1 ^1;");
            fault(1, word + " 1 ^persons;");
        }
    }

    /** FAULT 1 at the text's length, where it ends too soon, blanks behind it or not. */
    private static void endsTooSoon() {
        String[] soon = {"floors", "floors 8", "car", "car 0", "car 0 1", "car 0 1 persons", "rider", "rider 0",
            "rider 0 0", "rider 0 0 1", "rider 0 0 1 parcel", "dwell", "dwell 1", "late", "late 0", "policy",
            "policy 0", "peak", "peak 0", "car 0 1;car"};
        for (String text : soon) {
            fault(1, text + "^");
            fault(1, text + " \n ^");
        }
    }

    // --- FAULTS ---

    /** FAULT 4: 'floors' behind any CLAUSE, a second 'dwell', 'late', 'policy', 'peak'. */
    private static void secondSettings() {
        String[] clauses = {"floors 8;", "car 0 1;", "rider 0 0 1;", "dwell 1;", "late 1;", "policy 1;", "peak 1;"};
        for (String clause : clauses) fault(4, clause + "^floors 8;");
        for (int i = 3; i < 7; i++) {
            String word = clauses[i].substring(0, clauses[i].indexOf(' '));
            fault(4, clauses[i] + "^" + clauses[i]);
            fault(4, clauses[i] + "car 0 1;^" + word);
            for (int k = 3; k < 7; k++) {
                if (k != i) count(clauses[i] + clauses[k], k, 1);
            }
        }
        fault(4, "dwell 1;late 1;policy 1;peak 1;^late 2;");
    }

    /** FAULT 5: TO that is FROM. */
    private static void sameFloor() {
        for (int floor = 0; floor < 8; floor++) fault(5, "rider 0 " + floor + " ^" + floor + ";");
        fault(5, "rider 0 3 ^03;");
        fault(5, "floors 12;rider 0 11 ^11 parcel;");
        fault(5, "rider 0 3 ^3 x");
        fault(5, "rider 0 3 ^3");
    }

    private static void firstAlongTheText() {
        fault(1, "car 0 1;^x;car 9 9;");
        fault(2, "car 0 ^9;car 9 1;rider 1 1 1;floors 1;");
        fault(3, "car ^9 9;x");
        fault(3, "car ^9 persons;");
        fault(3, "rider 0 ^8 8;");
        fault(3, "rider 0 0 ^8 8;");
        fault(2, "rider ^100 9 9;");
        fault(4, "dwell 1;^dwell 9;");
        fault(4, "car 0 1;^floors 99;");
        fault(4, "peak 1;^peak x;");
        fault(5, "rider 0 1 ^1;;");
        fault(2, CARS + "^car 9 9;");
        fault(2, RIDERS + "^rider x;");
    }

    private static void leastOfOneToken() {
        // it can't stand there, and is too much too
        fault(1, "car 0 1 ^123;");
        fault(1, "^123;");
        fault(1, CARS + "dwell ^car;");
        fault(1, RIDERS + "dwell ^rider;");
        fault(1, "car 0 1;".repeat(3) + "car 0 1 ^car 0 1;");
        // it can't stand there, and is behind a CLAUSE, or a second one
        fault(1, "car 0 1;car ^floors 3;");
        fault(1, "dwell 1;late ^dwell 1;");
        fault(1, "dwell 1 ^dwell 1;");
        // it is too much, and no FLOOR
        fault(2, "car ^999 1;");
        fault(2, "rider 0 ^999 1;");
        fault(2, "rider 0 1 ^999;");
        // it is too much, and FROM
        fault(2, "rider 0 3 ^003;");
    }
}
