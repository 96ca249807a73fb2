import java.util.ArrayList;
import java.util.Arrays;
import java.util.List;
import java.util.function.Function;
import java.util.function.Supplier;
import java.util.function.ToIntFunction;

/**
 * Each call of the face that is refused, and each that only asks: what it answers, which STATUS counts it, and that
 * nothing else changes by it: an object of which it was asked answers all as another one of which it was not.
 */
public final class CallEdgesTest extends Checks {
    private static final int FALSE = 0;
    /** No STATUS. */
    private static final int NO = -1;

    /** Numbers that are far off, whatever is asked. */
    private static final int[] FAR = {Integer.MIN_VALUE, -1000, 1000, Integer.MAX_VALUE};

    /** What is asked of an object as it is made by base. */
    private static Supplier<LiftBank> base;

    public static void main(String[] args) {
        aNewObject();
        feedIsRefused();
        groupIsRefused();
        groupFindsAFault();
        aTextMakesAllAnew();
        whatThereIsNot();
        actsAreRefused();
        actsAreRefusedAtTheLimit();
        foretellingIsRefused();
        comparingIsRefused();
        notesAreRefused();
        thereIsNone();
        askingChangesNothing();
        keepingChangesNothing();
        forgetChangesWhatIsNoted();
        imageOfManyActs();
        end();
    }

    // --- objects ---

    /** With a CAR that is OUT, one for parcels, RIDERS of each kind, ACTS, an IMAGE, what is NOTED, STATUS. */
    private static LiftBank inUse() {
        LiftBank x = of("floors 6;car 0 2;car 3 1 parcels;car 5 2;rider 0 2 4;rider 2 4 1 parcel;rider 50 0 5;"
                + "late 2;peak 1;");
        x.ticks(4);
        x.come(5, 0, 1);
        x.out(2, true);
        x.note(0, 9);
        x.note(1, -1);
        x.image();
        x.ticks(2);
        x.rule(1, 3);
        x.rule(1, 12);
        x.come(0, 3, 2);
        return x;
    }

    /** TIME 990, 4 CARS, 24 RIDERS, 8 NOTED, 40 ACTS, a FIRE, a tape of 900 bytes. */
    private static LiftBank atTheLimit() {
        LiftBank x = of("floors 12;car 0 2;car 3 1 parcels;car 5 1 persons;car 11 6;" + "rider 0 2 4;".repeat(20)
                + "policy 2;");
        for (int i = 0; i < 16; i++) x.ticks(60);
        x.ticks(30);
        x.fire(true);
        for (int i = 20; i < 24; i++) x.come(11, 0, 1);
        for (int i = 0; i < 8; i++) x.note(i, 100);
        for (int i = 22; i < 42; i++) x.rule(1, i % 12);
        x.image();
        for (int i = 0; i < 45; i++) x.feed(0, 1, 2, 3, i);
        return x;
    }

    /** All that it tells of itself, but STATUS, the tape and the place of a FAULT. */
    private static List<Integer> all(LiftBank x) {
        List<Integer> told = new ArrayList<>();
        for (int w = 0; w < 30; w++) if (w < 22 || w > 25) told.add(x.count(w));
        int floors = x.count(0);
        for (int c = 0; c < x.count(1); c++) for (int w = 0; w < 10; w++) told.add(x.car(c, w));
        for (int r = 0; r < x.count(2); r++) for (int w = 1; w < 8; w++) told.add(x.rider(r, w));
        for (int f = 0; f < floors; f++) {
            for (int sort = 1; sort <= 2; sort++) {
                told.add(x.given(f, true, sort));
                told.add(x.given(f, false, sort));
            }
        }
        told.add(x.fits(0));
        told.add(x.fits(1));
        told.add(x.look(0));
        return told;
    }

    /** What it is like behind each ACT that is UNDONE, and then as its IMAGE, which has STATUS too. */
    private static List<Integer> undone(LiftBank x) {
        List<Integer> told = new ArrayList<>();
        while (x.undo() >= 0) {
            told.add(x.count(20));
            told.add(x.count(7));
            told.add(x.count(9));
            told.add(x.count(4));
        }
        boolean restored = x.restore();
        told.add(restored ? 1 : 0);
        for (int w : new int[] {2, 7, 10, 14, 20, 21}) told.add(x.count(w));
        for (int k = 23; restored && k <= 25; k++) told.add(x.count(k));
        return told;
    }

    private static List<Integer> restored(LiftBank x) {
        x.restore();
        return all(x);
    }

    // --- a call that changes nothing ---

    private static void refused(String name, int want, int status, ToIntFunction<LiftBank> call) {
        changes(name, want, status, call);
        sameByUse(name, call, CallEdgesTest::undone);
        sameByUse(name, call, CallEdgesTest::restored);
    }

    /** It answers so, and one STATUS is one more, or none. */
    private static void changes(String name, int want, int status, ToIntFunction<LiftBank> call) {
        LiftBank x = base.get();
        LiftBank y = base.get();
        due(name, answer(() -> call.applyAsInt(x)), want);
        for (int k = 0; k < 3; k++) {
            due(name + ": STATUS " + k, x.count(23 + k), y.count(23 + k) + (k == status ? 1 : 0));
        }
        due(name + ": the place of a FAULT", x.fault(), y.fault());
        due(name + ": the tape", x.count(22), y.count(22));
        due(name + ": all else", all(x).equals(all(y)), true);
    }

    private static void sameByUse(String name, ToIntFunction<LiftBank> call, Function<LiftBank, List<Integer>> use) {
        LiftBank x = base.get();
        LiftBank y = base.get();
        answer(() -> call.applyAsInt(x));
        due(name + ": all behind it", use.apply(x).equals(use.apply(y)), true);
    }

    private static void none(String name, int status, ToIntFunction<LiftBank> call) {
        refused(name, LiftBank.NONE, status, call);
    }

    private static void noElement(String name, ToIntFunction<LiftBank> call) {
        refused(name, NO_ELEMENT, NO, call);
    }

    private static void noArgument(String name, ToIntFunction<LiftBank> call) {
        refused(name, NO_ARGUMENT, NO, call);
    }

    /** These, and some that are far off. */
    private static int[] and(int... near) {
        int[] all = Arrays.copyOf(near, near.length + FAR.length);
        System.arraycopy(FAR, 0, all, near.length, FAR.length);
        return all;
    }

    private static int of(boolean is) {
        return is ? 1 : FALSE;
    }

    // --- promises 1 to 4 ---

    /** No CARS, no RIDERS, no TEXT told. */
    private static void aNewObject() {
        base = LiftBank::new;
        noArgument("group(1)", x -> x.group(1));
        noElement("car(0, 0)", x -> x.car(0, 0));
        noElement("rider(0, 0)", x -> x.rider(0, 0));
        noElement("given(8, true, 1)", x -> x.given(8, true, 1));
        changes("given(7, true, 1)", -2, NO, x -> x.given(7, true, 1));
        noElement("cost(0, 0, true, 1)", x -> x.cost(0, 0, true, 1));
        noElement("when(0)", x -> x.when(0));
        noElement("homes(0, 0)", x -> x.homes(0, 0));
        noElement("later(0)", x -> x.later(0));
        none("come(0, 8, 1)", 1, x -> x.come(0, 8, 1));
        refused("out(0, true)", FALSE, 1, x -> of(x.out(0, true)));
        refused("out(0, false)", FALSE, 1, x -> of(x.out(0, false)));
        refused("fire(false)", FALSE, 1, x -> of(x.fire(false)));
        none("note(0, 0)", 2, x -> x.note(0, 0));
        none("undo()", NO, x -> x.undo());
        refused("restore()", FALSE, NO, x -> of(x.restore()));
        for (int what = 0; what < 4; what++) {
            int w = what;
            changes("ahead(120, " + w + ")", 0, NO, x -> x.ahead(120, w));
        }
        LiftBank x = new LiftBank();
        due("come", x.come(7, 0, 2), 0);
        due("ticks", x.ticks(60), 60);
        due("fire", x.fire(true), true);
        due("rule", x.rule(0, 2), 1);
        due("when", when(x, 0), -1);
        due("later of who came by hand", later(x, 0), NO_ELEMENT);
        for (int left = 3; left >= 0; left--) due("undo", x.undo(), left);
        due("RIDERS", x.count(2), 0);
    }

    private static void feedIsRefused() {
        base = CallEdgesTest::atTheLimit;
        none("feed behind 900 bytes", NO, x -> x.feed(1, 2, 3, 4, 5));
        LiftBank x = new LiftBank();
        int blank = 0x20202020;
        for (int i = 1; i <= 44; i++) due("feed " + i, x.feed(blank, blank, blank, blank, blank), 20 * i);
        due("to 900", x.feed(blank, blank, blank, 0x63617220, 0x3020313b), 900);
        due("no more", x.feed(blank, blank, blank, blank, blank), -1);
        due("none of them came", x.group(900), 0);
        due("what came before stands", x.count(1), 1);
    }

    private static void groupIsRefused() {
        base = CallEdgesTest::atTheLimit;
        for (int n : and(-1, 901)) noArgument("group(" + n + ")", x -> x.group(n));
        base = CallEdgesTest::inUse;
        for (int n : and(-1, 1, 20)) noArgument("group(" + n + ") of an empty tape", x -> x.group(n));
        base = () -> {
            LiftBank x = inUse();
            tell(x, "car 0 7;");
            feedText(x, "floors 3;");
            return x;
        };
        noArgument("group(21) behind a FAULT: its place stays", x -> x.group(21));
        due("the place", base.get().fault(), 6);
    }

    /** All stays, but STATUS, the tape and the place. */
    private static void groupFindsAFault() {
        String[] texts = {"x", "floors 3;car 0 1;rider 0 0 1;dwell 1;late 0;policy 0;peak 0;x", "car 0 7;", "car 8 1;",
            "car 0 1;floors 3;", "rider 0 1 1;"};
        int[] faults = {1, 1, 2, 3, 4, 5};
        base = CallEdgesTest::inUse;
        for (int i = 0; i < texts.length; i++) {
            String text = texts[i];
            sameByUse("FAULT of " + text, x -> tell(x, text), CallEdgesTest::all);
            LiftBank x = inUse();
            due("FAULT of " + text, tell(x, text), faults[i]);
            due("STATUS 0", x.count(23), 1);
            due("STATUS 1", x.count(24), 1);
            due("STATUS 2", x.count(25), 1);
            due("the tape", x.count(22), 0);
            for (int left = 5; left >= 0; left--) due("ACTS stay", x.undo(), left);
            due("TIME", x.count(7), 0);
            due("NOTED stays", x.count(21), 1);
            due("the IMAGE stays", x.restore(), true);
            due("TIME", x.count(7), 4);
            due("STATUS 0 as in the IMAGE", x.count(23), 0);
        }
        LiftBank x = inUse();
        due("an empty TEXT is one", x.group(0), 0);
        due("ACTS are gone", x.undo(), -1);
        due("NOTED is gone", x.count(21), 0);
        due("the IMAGE is gone", x.restore(), false);
        due("TIME", x.count(7), 0);
        due("no PEAK", x.count(15), 0);
        due("STATUS 1 stays", x.count(24), 1);
    }

    /** Whatever was foretold ahead of it, and whatever there was. */
    private static void aTextMakesAllAnew() {
        String text = "floors 9;car 0 2;car 8 1 parcels;car 4 1;car 4 2;policy 0;peak 2;late 3;rider 3 0 5;"
                + "rider 0 8 1;rider 0 4 3 parcel;rider 9 2 7;rider 0 5 6;rider 1 0 3;rider 2 0 8 parcel;";
        List<Function<LiftBank, List<Integer>>> uses = new ArrayList<>();
        uses.add(CallEdgesTest::all);
        for (int n : new int[] {1, 4, 12, 40}) {
            uses.add(x -> {
                x.come(0, 7, 1);
                x.ticks(n);
                return all(x);
            });
        }
        for (int i = 0; i < uses.size(); i++) {
            for (int seed = 0; seed < 6; seed++) {
                LiftBank x = inUse();
                x.rule(0, 0);
                if (seed % 2 == 1) x.fire(true);
                x.ahead(120, 0);
                x.years(seed, 5 + 5 * (seed % 3), 0);
                due("the TEXT", tell(x, text), 0);
                due("use " + i + " of a TEXT", uses.get(i).apply(x).equals(uses.get(i).apply(of(text))), true);
            }
        }
        LiftBank x = of("car 0 1;rider 0 0 3;rider 0 1 3;");
        due("PASSED, as it was foretold", x.ahead(20, 1), 1);
        due("the TEXT", tell(x, "car 0 1;"), 0);
        due("nothing PASSED", x.count(13), 0);
    }

    // --- promises 5 to 9 ---

    private static void whatThereIsNot() {
        base = CallEdgesTest::inUse;
        for (int w : and(-1, 30)) noElement("count(" + w + ")", x -> x.count(w));
        for (int c : and(-1, 3)) {
            noElement("car(" + c + ", 0)", x -> x.car(c, 0));
            noElement("cost(" + c + ", 0, true, 1)", x -> x.cost(c, 0, true, 1));
        }
        for (int w : and(-1, 10)) noElement("car(0, " + w + ")", x -> x.car(0, w));
        for (int r : and(-1, 5)) noElement("rider(" + r + ", 0)", x -> x.rider(r, 0));
        for (int w : and(-1, 8)) noElement("rider(0, " + w + ")", x -> x.rider(0, w));
        for (int f : and(-1, 6)) {
            noElement("given(" + f + ", true, 1)", x -> x.given(f, true, 1));
            noElement("cost(0, " + f + ", true, 1)", x -> x.cost(0, f, true, 1));
            noElement("cost of the CAR that is OUT, at " + f, x -> x.cost(2, f, true, 1));
        }
        for (int s : and(-1, 0, 3)) {
            noElement("given(0, true, " + s + ")", x -> x.given(0, true, s));
            noElement("cost(0, 0, true, " + s + ")", x -> x.cost(0, 0, true, s));
            noElement("cost of the CAR for parcels, SORT " + s, x -> x.cost(1, 0, true, s));
        }
        noArgument("cost of the CAR that is OUT", x -> x.cost(2, 0, true, 1));
        noArgument("cost of the CAR for parcels", x -> x.cost(1, 0, true, 1));
        // from 3 down to 1, OPENS, DOORS, down to 0
        changes("cost of the CAR for parcels, of parcels", 2 + 1 + 2, NO, x -> x.cost(1, 0, true, 2));
    }

    // --- promises 10 to 15 ---

    private static void actsAreRefused() {
        base = CallEdgesTest::inUse;
        for (int n : and(-1, 0, 61)) none("ticks(" + n + ")", 1, x -> x.ticks(n));
        for (int f : and(-1, 6)) {
            none("come(" + f + ", 0, 1)", 1, x -> x.come(f, 0, 1));
            none("come(0, " + f + ", 1)", 1, x -> x.come(0, f, 1));
        }
        none("come(0, 0, 1)", 1, x -> x.come(0, 0, 1));
        none("come(5, 5, 2)", 1, x -> x.come(5, 5, 2));
        for (int s : and(-1, 0, 3)) none("come(0, 1, " + s + ")", 1, x -> x.come(0, 1, s));
        for (int c : and(-1, 3)) {
            refused("out(" + c + ", true)", FALSE, 1, x -> of(x.out(c, true)));
            refused("out(" + c + ", false)", FALSE, 1, x -> of(x.out(c, false)));
        }
        refused("it is OUT already", FALSE, 1, x -> of(x.out(2, true)));
        refused("it is IN already", FALSE, 1, x -> of(x.out(0, false)));
        refused("there is no FIRE", FALSE, 1, x -> of(x.fire(false)));
        for (int w : and(-1, 2)) none("rule(" + w + ", 0)", 1, x -> x.rule(w, 0));
        for (int v : and(-1, 3)) none("rule(0, " + v + ")", 1, x -> x.rule(0, v));
        for (int v : and(-1, 12)) none("rule(1, " + v + ")", 1, x -> x.rule(1, v));
    }

    private static void actsAreRefusedAtTheLimit() {
        base = CallEdgesTest::atTheLimit;
        for (int n : and(10, 11, 60)) none("ticks(" + n + ") from 990", 1, x -> x.ticks(n));
        none("the 25th RIDER", 1, x -> x.come(0, 1, 1));
        refused("there is a FIRE", FALSE, 1, x -> of(x.fire(true)));
        LiftBank x = atTheLimit();
        due("ticks(9) from 990", x.ticks(9), 999);
        due("40 ACTS", x.count(20), 40);
        for (int n : new int[] {1, 60}) due("ticks(" + n + ") from 999", x.ticks(n), -1);
        due("UNDONE", x.undo(), 39);
        due("TIME", x.count(7), 990);
        due("the FIRE is over", x.fire(false), true);
        due("LATE is told, as it was", x.rule(1, 5), 5);
        due("POLICY is told, as it was", x.rule(0, 2), 2);
        for (int i = 0; i < 2; i++) x.undo();
        due("it burns no more", x.count(8), 0);
        due("40 are kept still, of which 2 are UNDONE", x.count(20), 38);
        for (int c = 0; c < 4; c++) due("a CAR is OUT", x.out(c, true), true);
        for (int c = 0; c < 4; c++) due("and IN again", x.out(c, false), true);
        due("ticks(9) without a FIRE", x.ticks(9), 999);
        due("4 CARS and 24 RIDERS", x.count(9) + x.count(10) + x.count(11), 24);
    }

    private static void thereIsNone() {
        LiftBank x = new LiftBank();
        for (int i = 0; i < 3; i++) {
            due("nothing to be UNDONE", x.undo(), -1);
            due("no IMAGE", x.restore(), false);
            for (int k = 23; k <= 25; k++) due("no STATUS by that", x.count(k), 0);
        }
        base = () -> {
            LiftBank y = inUse();
            while (y.undo() >= 0) y.forget();
            return y;
        };
        none("undo() behind the last", NO, y -> y.undo());
        base = () -> of("car 0 1;rider 0 0 1;");
        refused("restore() without an IMAGE", FALSE, NO, y -> of(y.restore()));
    }

    // --- promises 16 to 21, 26 ---

    private static void foretellingIsRefused() {
        base = CallEdgesTest::inUse;
        for (int w : and(-1, 4)) {
            noElement("ahead(0, " + w + ")", x -> x.ahead(0, w));
            noElement("ahead(121, " + w + "), n behind that", x -> x.ahead(121, w));
        }
        for (int n : and(-1, 121)) {
            for (int w = 0; w < 4; w++) {
                int what = w;
                noArgument("ahead(" + n + ", " + w + ")", x -> x.ahead(n, what));
            }
        }
        for (int r : and(-1, 5)) noElement("when(" + r + ")", x -> x.when(r));
        for (int r : and(-1, 3, 4, 5)) noElement("later(" + r + ")", x -> x.later(r));
        for (int w : and(-1, 3)) {
            noElement("years(1, 0, " + w + ")", x -> x.years(1, 0, w));
            noElement("years(1, 21, " + w + "), n behind that", x -> x.years(1, 21, w));
        }
        for (int n : and(-1, 21)) {
            for (int w = 0; w < 3; w++) {
                int what = w;
                noArgument("years(1, " + n + ", " + w + ")", x -> x.years(1, n, what));
            }
        }
    }

    private static void comparingIsRefused() {
        base = CallEdgesTest::inUse;
        for (int p : and(-1, 3)) {
            noArgument("mean(" + p + ", 0)", x -> x.mean(p, 0));
            noArgument("anew(" + p + ", 0, 0)", x -> x.anew(p, 0, 0));
            noElement("anew(" + p + ", 0, 3), POLICY behind that", x -> x.anew(p, 0, 3));
        }
        for (int l : and(-1, 12)) {
            noArgument("mean(0, " + l + ")", x -> x.mean(0, l));
            noArgument("anew(0, " + l + ", 2)", x -> x.anew(0, l, 2));
            noElement("anew(0, " + l + ", -1), LATE behind that", x -> x.anew(0, l, -1));
        }
        for (int w : and(-1, 3)) noElement("anew(0, 0, " + w + ")", x -> x.anew(0, 0, w));
        for (int c : and(-1, 3)) {
            noElement("homes(" + c + ", 0)", x -> x.homes(c, 0));
            noElement("homes(" + c + ", 1)", x -> x.homes(c, 1));
        }
        for (int w : and(-1, 2)) {
            noElement("homes(0, " + w + ")", x -> x.homes(0, w));
            noElement("fits(" + w + ")", x -> x.fits(w));
            noElement("look(" + w + ")", x -> x.look(w));
        }
    }

    // --- promises 22 to 25 ---

    private static void notesAreRefused() {
        base = CallEdgesTest::inUse;
        for (int r : and(-1, 3, 4, 5)) none("note(" + r + ", 0)", 2, x -> x.note(r, 0));
        for (int t : and(-1, 200)) none("note(0, " + t + ")", 2, x -> x.note(0, t));
        due("note(2, 0)", inUse().note(2, 0), 2);
        due("note(0, 199)", inUse().note(0, 199), 2);
        base = CallEdgesTest::atTheLimit;
        none("the 9th", 2, x -> x.note(0, 0));
        LiftBank x = atTheLimit();
        x.forget();
        for (int i = 1; i <= 8; i++) due("note " + i + " behind forget()", x.note(19, 199), i);
        due("the 9th", x.note(19, 199), -1);
    }

    private static void forgetChangesWhatIsNoted() {
        base = CallEdgesTest::inUse;
        LiftBank x = inUse();
        due("NOTED", x.count(21), 1);
        int fits = x.fits(0);
        x.forget();
        x.forget();
        due("forgotten", x.count(21), 0);
        due("all fit", x.fits(0), 36);
        x.note(0, 9);
        due("NOTED again", x.fits(0), fits);
        due("all else", all(x).equals(all(inUse())), true);
        x.forget();
        due("no ACT to be UNDONE", undone(x).equals(undone(inUse())), true);
    }

    // --- what only asks, or keeps ---

    private static void askingChangesNothing() {
        for (int limit = 0; limit < 2; limit++) {
            base = limit == 0 ? CallEdgesTest::inUse : CallEdgesTest::atTheLimit;
            LiftBank told = base.get();
            for (int w = 0; w < 30; w++) {
                int what = w;
                changes("count(" + w + ")", told.count(w), NO, x -> x.count(what));
            }
            for (int w = 0; w < 4; w++) {
                int what = w;
                changes("ahead(120, " + w + ")", told.ahead(120, w), NO, x -> x.ahead(120, what));
            }
            for (int w = 0; w < 3; w++) {
                int what = w;
                changes("anew(2, 11, " + w + ")", told.anew(2, 11, w), NO, x -> x.anew(2, 11, what));
                changes("years(-1, 20, " + w + ")", told.years(-1, 20, w), NO, x -> x.years(-1, 20, what));
            }
            changes("when", told.when(1), NO, x -> x.when(1));
            changes("mean", told.mean(0, 11), NO, x -> x.mean(0, 11));
            changes("homes", told.homes(1, 0), NO, x -> x.homes(1, 0));
            changes("later", told.later(1), NO, x -> x.later(1));
            changes("cost", told.cost(0, 5, true, 1), NO, x -> x.cost(0, 5, true, 1));
            changes("look", told.look(1), NO, x -> x.look(1));
            sameByUse("cost", x -> x.cost(0, 5, true, 1), CallEdgesTest::undone);
            sameByUse("years", x -> x.years(7, 20, 1), CallEdgesTest::restored);
        }
    }

    private static void keepingChangesNothing() {
        base = CallEdgesTest::inUse;
        changes("image()", 1, NO, x -> {
            x.image();
            return 1;
        });
        // it is as the IMAGE, which stays: STATUS 1 without the last refusal
        LiftBank x = inUse();
        due("restore()", x.restore(), true);
        List<Integer> once = all(x);
        due("STATUS 1", x.count(24), 0);
        due("STATUS 2", x.count(25), 1);
        x.ticks(60);
        x.fire(true);
        due("restore() again", x.restore(), true);
        due("the same", all(x).equals(once), true);
    }

    /** The latest 40 of more are in the IMAGE too. */
    private static void imageOfManyActs() {
        LiftBank x = of("car 0 1;rider 5 3 4;");
        for (int i = 0; i < 43; i++) x.ticks(1);
        x.image();
        for (int i = 0; i < 5; i++) x.rule(1, i);
        for (int left = 39; left >= 0; left--) due("UNDONE", x.undo(), left);
        due("TIME behind the latest 35 TICKS", x.count(7), 8);
        due("restore()", x.restore(), true);
        due("TIME", x.count(7), 43);
        for (int left = 39; left >= 0; left--) {
            due("UNDONE", x.undo(), left);
            due("TIME", x.count(7), left + 3);
        }
        due("no more", x.undo(), -1);
        due("restore()", x.restore(), true);
        due("all 40 again", x.count(20), 40);
    }
}
