import java.util.NoSuchElementException;

/** A group of lifts, as ../shared/DOC.md tells it: numbered promises, words in capitals. */
public final class LiftBank {
    public static final int NONE = -1;

    private static final int NO_CALL = -2;
    private static final int MAX_TAPE = 900;
    private static final int FEED_BYTES = 20;
    private static final int MAX_CARS = 4;
    private static final int MAX_TOLD = 20;
    private static final int MAX_RIDERS = 24;
    private static final int MAX_CAPACITY = 6;
    private static final int MAX_ACTS = 40;
    private static final int MAX_NOTES = 8;
    private static final int MAX_TICKS = 60;
    private static final int MAX_TIME = 999;
    private static final int MAX_AHEAD = 120;
    private static final int MAX_COST = 60;
    private static final int MAX_LATER = 20;
    private static final int MAX_TOLD_TIME = 99;
    private static final int MAX_YEARS = 20;
    private static final int POLICIES = 3;
    private static final int LATES = 12;
    private static final int LONG_RUN = 200;

    private static final int YET = 0;
    private static final int WAITS = 1;
    private static final int RIDES = 2;
    private static final int DONE = 3;

    private static final int PERSONS = 1;
    private static final int PARCELS = 2;

    private final Reader reader = new Reader();
    private int faultPlace = NONE;
    private final Bank spare = new Bank();
    private final Replay replay = new Replay();
    private final Desk desk = new Desk();
    /** Made by the first image(), as most objects never keep one. */
    private Desk picture = null;
    private boolean pictured = false;

    public LiftBank() {
    }

    public int feed(int a, int b, int c, int d, int e) {
        if (reader.held + FEED_BYTES > MAX_TAPE) {
            return NONE;
        }
        reader.put(a);
        reader.put(b);
        reader.put(c);
        reader.put(d);
        reader.put(e);
        return reader.held;
    }

    public int group(int n) throws IllegalArgumentException {
        if (n < 0 || n > reader.held) {
            throw new IllegalArgumentException("the tape has not so many bytes");
        }
        int found = reader.read(n);
        faultPlace = reader.place;
        if (found != 0) {
            desk.refused[0]++;
            return found;
        }
        replay.begin(reader.bank);
        desk.begin(reader.bank);
        pictured = false;
        return 0;
    }

    public int fault() {
        return faultPlace;
    }

    public int count(int what) throws NoSuchElementException {
        Bank now = desk.now;
        switch (what) {
            case 0: return now.floors;
            case 1: return now.cars;
            case 2: return now.riders;
            case 3: return now.dwell;
            case 4: return now.late;
            case 5: return now.policy;
            case 6: return now.peak;
            case 7: return now.time;
            case 8: return now.burning ? 1 : 0;
            case 9: return now.howMany(WAITS);
            case 10: return now.howMany(RIDES);
            case 11: return now.finished;
            case 12: return Long.bitCount(now.callsWaiting());
            case 13: return now.passedInAll();
            case 14: return now.waitedInAll();
            case 15: return now.rush ? 1 : 0;
            case 16: return now.worst();
            case 17: return replay.best(now.late);
            case 18: return replay.room(now.policy, now.late);
            case 19: return replay.missed(now.policy, now.late);
            case 20: return desk.acts.size;
            case 21: return desk.noted;
            case 22: return reader.held;
            case 23: return desk.refused[0];
            case 24: return desk.refused[1];
            case 25: return desk.refused[2];
            case 26: return now.overtaken();
            case 27: return replay.thrift(now.late);
            case 28: return (int) now.workInAll();
            case 29: return ticksToQuiet();
            default: throw new NoSuchElementException("no such count");
        }
    }

    private int ticksToQuiet() {
        spare.copyFrom(desk.now);
        for (int n = 0; n < LONG_RUN; n++) {
            if (spare.isQuiet()) {
                return n;
            }
            spare.pass(1);
        }
        return spare.isQuiet() ? LONG_RUN : NONE;
    }

    public int car(int car, int what) throws NoSuchElementException {
        Bank now = desk.now;
        if (car < 0 || car >= now.cars) {
            throw new NoSuchElementException("no such car");
        }
        Car it = now.lifts[car];
        switch (what) {
            case 0: return it.sort;
            case 1: return it.capacity;
            case 2: return it.home;
            case 3: return it.floor;
            case 4: return it.way;
            case 5: return it.doors;
            case 6: return it.aboard;
            case 7: return it.in ? 1 : 0;
            case 8: return it.stopFloors(now.floors);
            case 9: return bitsOf(it.work);
            default: throw new NoSuchElementException("no such what of a car");
        }
    }

    public int rider(int rider, int what) throws NoSuchElementException {
        Bank now = desk.now;
        if (rider < 0 || rider >= now.riders) {
            throw new NoSuchElementException("no such rider");
        }
        Rider it = now.people[rider];
        switch (what) {
            case 0: return it.sort;
            case 1: return it.time;
            case 2: return it.from;
            case 3: return it.to;
            case 4: return it.state;
            case 5: return it.where;
            case 6: return it.waited;
            case 7: return it.doneAt;
            default: throw new NoSuchElementException("no such what of a rider");
        }
    }

    public int given(int floor, boolean up, int sort) throws NoSuchElementException {
        Bank now = desk.now;
        if (!now.hasFloor(floor) || !isSort(sort)) {
            throw new NoSuchElementException("no such floor or sort");
        }
        int call = callNumber(floor, up ? 1 : -1, sort);
        return (now.callsWaiting() >>> call & 1L) == 0L ? NO_CALL : now.holderOf(call);
    }

    public int cost(int car, int floor, boolean up, int sort)
            throws NoSuchElementException, IllegalArgumentException {
        Bank now = desk.now;
        if (car < 0 || car >= now.cars || !now.hasFloor(floor) || !isSort(sort)) {
            throw new NoSuchElementException("no such car, floor or sort");
        }
        Car it = now.lifts[car];
        if (!it.in || !it.takes(sort)) {
            throw new IllegalArgumentException("the car is out, or does not take that sort");
        }
        return now.costOf(it, callNumber(floor, up ? 1 : -1, sort));
    }

    public int ticks(int n) {
        Bank now = desk.now;
        if (n < 1 || n > MAX_TICKS || now.time + n > MAX_TIME) {
            return refuseAct();
        }
        desk.acts.keep(now);
        now.pass(n);
        return now.time;
    }

    public int come(int from, int to, int sort) {
        Bank now = desk.now;
        boolean floors = now.hasFloor(from) && now.hasFloor(to) && from != to;
        if (!floors || !isSort(sort) || now.riders >= MAX_RIDERS) {
            return refuseAct();
        }
        desk.acts.keep(now);
        return now.addByHand(from, to, sort);
    }

    public boolean out(int car, boolean is) {
        Bank now = desk.now;
        if (car < 0 || car >= now.cars || now.lifts[car].in != is) {
            refuseAct();
            return false;
        }
        desk.acts.keep(now);
        if (is) {
            now.putOutOfService(car);
        } else {
            now.lifts[car].in = true;
        }
        return true;
    }

    public boolean fire(boolean is) {
        Bank now = desk.now;
        if (now.burning == is) {
            refuseAct();
            return false;
        }
        desk.acts.keep(now);
        now.burning = is;
        return true;
    }

    public int rule(int what, int v) {
        Bank now = desk.now;
        boolean policy = what == 0 && v >= 0 && v < POLICIES;
        boolean late = what == 1 && v >= 0 && v < LATES;
        if (!policy && !late) {
            return refuseAct();
        }
        desk.acts.keep(now);
        int was = policy ? now.policy : now.late;
        if (policy) {
            now.policy = v;
        } else {
            now.late = v;
        }
        return was;
    }

    private int refuseAct() {
        desk.refused[1]++;
        return NONE;
    }

    public int undo() {
        return desk.acts.takeBack(desk.now) ? desk.acts.size : NONE;
    }

    public int ahead(int n, int what) throws NoSuchElementException, IllegalArgumentException {
        if (what < 0 || what > 3) {
            throw new NoSuchElementException("no such what of ahead");
        }
        if (n < 0 || n > MAX_AHEAD) {
            throw new IllegalArgumentException("not so far ahead");
        }
        spare.copyFrom(desk.now);
        spare.pass(n);
        switch (what) {
            case 0: return spare.finished;
            case 1: return spare.passedInAll();
            case 2: return spare.waitedInAll();
            default: return spare.stopped();
        }
    }

    public int when(int rider) throws NoSuchElementException {
        Bank now = desk.now;
        if (rider < 0 || rider >= now.riders) {
            throw new NoSuchElementException("no such rider");
        }
        spare.copyFrom(now);
        Rider it = spare.people[rider];
        for (int n = 0; n < LONG_RUN && it.state != DONE; n++) {
            spare.pass(1);
        }
        return it.doneAt;
    }

    public int mean(int policy, int late) throws IllegalArgumentException {
        if (!isPolicy(policy) || !isLate(late)) {
            throw new IllegalArgumentException("no such policy or late");
        }
        int riders = replay.start.riders;
        if (riders == 0) {
            return 0;
        }
        int waited = replay.waited[replay.run(policy, late)];
        return bitsOf((float) waited / (float) riders);
    }

    public int anew(int policy, int late, int what) throws NoSuchElementException, IllegalArgumentException {
        if (what < 0 || what > 2) {
            throw new NoSuchElementException("no such what of anew");
        }
        if (!isPolicy(policy) || !isLate(late)) {
            throw new IllegalArgumentException("no such policy or late");
        }
        int at = replay.run(policy, late);
        switch (what) {
            case 0: return replay.done[at];
            case 1: return replay.latest[at];
            default: return replay.passed[at];
        }
    }

    public int homes(int car, int what) throws NoSuchElementException {
        Bank now = desk.now;
        if (car < 0 || car >= now.cars || what < 0 || what > 1) {
            throw new NoSuchElementException("no such car, or what of homes");
        }
        int home = NONE;
        int least = 0;
        for (int floor = 0; floor < now.floors; floor++) {
            int waited = replay.waitedByHome(car, floor, now.policy, now.late);
            if (home == NONE || waited < least) {
                home = floor;
                least = waited;
            }
        }
        return what == 0 ? home : least;
    }

    public int later(int rider) throws NoSuchElementException {
        if (!isTold(rider)) {
            throw new NoSuchElementException("no such rider of the text");
        }
        Bank now = desk.now;
        int without = replay.doneTime(replay.run(now.policy, now.late), rider);
        int most = Math.min(MAX_LATER, MAX_TOLD_TIME - replay.start.people[rider].time);
        for (int more = most; more > 0 && without != NONE; more--) {
            int done = replay.doneIfLater(rider, more, now.policy, now.late);
            if (done != NONE && done <= without) {
                return more;
            }
        }
        return 0;
    }

    public int note(int rider, int time) {
        if (desk.noted >= MAX_NOTES || !isTold(rider) || time < 0 || time >= LONG_RUN) {
            desk.refused[2]++;
            return NONE;
        }
        desk.notedRider[desk.noted] = rider;
        desk.notedTime[desk.noted] = time;
        desk.noted++;
        return desk.noted;
    }

    public int fits(int what) throws NoSuchElementException {
        if (what < 0 || what > 1) {
            throw new NoSuchElementException("no such what of fits");
        }
        long fitting = allThatFit();
        if (what == 0) {
            return Long.bitCount(fitting);
        }
        return fitting == 0L ? NONE : Long.numberOfTrailingZeros(fitting);
    }

    /** Bit 12 times the POLICY, and LATE, of each pair by which all NOTED is so. */
    private long allThatFit() {
        long fitting = 0L;
        for (int policy = 0; policy < POLICIES; policy++) {
            for (int late = 0; late < LATES; late++) {
                int at = replay.run(policy, late);
                boolean so = true;
                for (int i = 0; i < desk.noted; i++) {
                    so = so && replay.doneTime(at, desk.notedRider[i]) == desk.notedTime[i];
                }
                if (so) {
                    fitting |= 1L << at;
                }
            }
        }
        return fitting;
    }

    public int look(int what) throws NoSuchElementException {
        if (what < 0 || what > 1) {
            throw new NoSuchElementException("no such what of look");
        }
        long fitting = allThatFit();
        int which = NONE;
        int most = 0;
        for (int r = 0; r < replay.start.riders; r++) {
            int unlike = replay.unlike(r, fitting);
            if (unlike > most) {
                which = r;
                most = unlike;
            }
        }
        return what == 0 ? which : most;
    }

    public void forget() {
        desk.noted = 0;
    }

    public int years(int seed, int n, int what) throws NoSuchElementException, IllegalArgumentException {
        if (what < 0 || what > 2) {
            throw new NoSuchElementException("no such what of years");
        }
        if (n < 0 || n > MAX_YEARS) {
            throw new IllegalArgumentException("not so many years");
        }
        Bank now = desk.now;
        spare.copyFrom(now);
        playYears(seed, n);
        switch (what) {
            case 0: return spare.finished;
            case 1: return spare.waitedInAll() - now.waitedInAll();
            default: return spare.passedInAll() - now.passedInAll();
        }
    }

    private void playYears(int seed, int n) {
        int state = seed;
        for (int i = 0; i < n; i++) {
            state = nextSeed(state);
            int from = drawOf(state, spare.floors);
            state = nextSeed(state);
            int to = drawOf(state, spare.floors - 1);
            if (to >= from) {
                to++;
            }
            state = nextSeed(state);
            int sort = drawOf(state, 2) == 1 ? PARCELS : PERSONS;
            if (spare.riders < MAX_RIDERS) {
                spare.addByHand(from, to, sort);
            }
            state = nextSeed(state);
            spare.pass(drawOf(state, 8) + 1);
        }
    }

    public void image() {
        if (picture == null) {
            picture = new Desk();
        }
        picture.copyFrom(desk);
        pictured = true;
    }

    public boolean restore() {
        if (!pictured || picture == null) {
            return false;
        }
        desk.copyFrom(picture);
        return true;
    }

    private boolean isTold(int rider) {
        return rider >= 0 && rider < replay.start.riders;
    }

    private static boolean isSort(int sort) {
        return sort == PERSONS || sort == PARCELS;
    }

    private static boolean isPolicy(int policy) {
        return policy >= 0 && policy < POLICIES;
    }

    private static boolean isLate(int late) {
        return late >= 0 && late < LATES;
    }

    private static int nextSeed(int seed) {
        return seed * 1103515245 + 12345;
    }

    private static int drawOf(int seed, int n) {
        return n < 1 ? 0 : (seed >>> 16 & 32767) % n;
    }

    /** CALLS have numbers in the order in which they are GIVEN, so that a long holds a set of them. */
    private static int callNumber(int floor, int way, int sort) {
        return 4 * floor + (way > 0 ? 0 : 2) + (sort == PERSONS ? 0 : 1);
    }

    /** The bits of a float that is not below 0, found by sums alone, as the language has no other way. */
    private static int bitsOf(float number) {
        if (!(number > 0f)) {
            return 0;
        }
        float rest = number;
        int exponent = 127;
        for (int i = 0; i < 128 && rest >= 2f; i++) {
            rest = rest / 2f;
            exponent++;
        }
        for (int i = 0; i < 128 && rest < 1f; i++) {
            rest = rest * 2f;
            exponent--;
        }
        return exponent << 23 | (int) ((rest - 1f) * 8388608f);
    }

    /** A RIDER: what was told of it, and how it stands. */
    private static final class Rider {
        int sort = PERSONS;
        int time = 0;
        int from = 0;
        int to = 0;
        int state = YET;
        /** The FLOOR, if it WAITS, the CAR, if it RIDES, else NONE. */
        int where = NONE;
        /** Its WAY, while it WAITS. */
        int way = 0;
        int waited = 0;
        int boardedAt = NONE;
        int doneAt = NONE;

        void tell(int itsTime, int itsFrom, int itsTo, int itsSort) {
            sort = itsSort;
            time = itsTime;
            from = itsFrom;
            to = itsTo;
            state = YET;
            where = NONE;
            way = 0;
            waited = 0;
            boardedAt = NONE;
            doneAt = NONE;
        }

        void waitAt(int floor) {
            state = WAITS;
            where = floor;
            way = to > floor ? 1 : -1;
        }

        void board(int car, int now) {
            state = RIDES;
            where = car;
            if (boardedAt == NONE) {
                boardedAt = now;
            }
        }

        void copyFrom(Rider other) {
            sort = other.sort;
            time = other.time;
            from = other.from;
            to = other.to;
            state = other.state;
            where = other.where;
            way = other.way;
            waited = other.waited;
            boardedAt = other.boardedAt;
            doneAt = other.doneAt;
        }
    }

    /** A CAR, and what it does in (c); COST moves a copy of it, so it changes no RIDER itself. */
    private static final class Car {
        int sort = 0;
        int home = 0;
        int capacity = 1;
        int floor = 0;
        int way = 0;
        int doors = 0;
        boolean in = true;
        float work = 0f;
        int passed = 0;
        /** RIDERS aboard, as bits, and how many they are. */
        int aboard = 0;
        int load = 0;
        /** TO of all aboard, each as the first call number of its FLOOR. */
        long goals = 0L;
        /** CALLS GIVEN to it, by their numbers. */
        long calls = 0L;
        /** RIDERS that got off and came aboard since these were last emptied. */
        int left = 0;
        int joined = 0;

        void tell(int itsHome, int itsCapacity, int itsSort) {
            sort = itsSort;
            home = itsHome;
            capacity = itsCapacity;
            floor = itsHome;
            way = 0;
            doors = 0;
            in = true;
            work = 0f;
            passed = 0;
            calls = 0L;
            empty();
        }

        void empty() {
            aboard = 0;
            load = 0;
            goals = 0L;
            left = 0;
            joined = 0;
        }

        void copyFrom(Car other) {
            sort = other.sort;
            home = other.home;
            capacity = other.capacity;
            floor = other.floor;
            way = other.way;
            doors = other.doors;
            in = other.in;
            work = other.work;
            passed = other.passed;
            aboard = other.aboard;
            load = other.load;
            goals = other.goals;
            calls = other.calls;
            left = 0;
            joined = 0;
        }

        boolean takes(int riderSort) {
            return sort == 0 || sort == riderSort;
        }

        /** One time (c), parking towards rest: whether it OPENS. */
        boolean move(Bank bank, int rest) {
            if (doors > 0) {
                doors--;
                if (doors > 0) {
                    return false;
                }
            }
            if (!opensHere(hasStop(way))) {
                way = onward(hasStop(1), hasStop(-1));
                go(rest);
                return false;
            }
            letOut(bank);
            int called = calledWay(hasStop(way));
            way = called != 0 ? called : onward(hasStop(1), hasStop(-1));
            takeIn(bank);
            doors = bank.dwell;
            work = work + 0.4f;
            return true;
        }

        /** Whether a STOP is above (1), below (-1); by no WAY (0) none is. */
        private boolean hasStop(int side) {
            long stops = load < capacity ? goals | calls : goals;
            long above = stops >>> 4 * floor >>> 4;
            long below = stops & (1L << 4 * floor) - 1L;
            return side > 0 ? above != 0L : side < 0 && below != 0L;
        }

        private boolean opensHere(boolean ahead) {
            if ((goals >>> 4 * floor & 1L) != 0L) {
                return true;
            }
            if (load >= capacity) {
                return false;
            }
            long here = calls >>> 4 * floor & 15L;
            long fit = way == 0 || !ahead ? 15L : way > 0 ? 3L : 12L;
            return (here & fit) != 0L;
        }

        private void letOut(Bank bank) {
            for (int r = 0; r < bank.riders; r++) {
                if ((aboard >>> r & 1) != 0 && bank.people[r].to == floor) {
                    aboard &= ~(1 << r);
                    left |= 1 << r;
                    load--;
                }
            }
            goals &= ~(1L << 4 * floor);
        }

        /** The WAY by which it OPENS, if that is its own or a CALL's; else 0. */
        private int calledWay(boolean ahead) {
            boolean up = (calls >>> 4 * floor & 3L) != 0L;
            boolean down = (calls >>> 4 * floor & 12L) != 0L;
            if (ahead || way > 0 && up || way < 0 && down) {
                return way;
            }
            return up ? 1 : down ? -1 : 0;
        }

        private int onward(boolean above, boolean below) {
            if (way < 0 && below) {
                return -1;
            }
            return above ? 1 : below ? -1 : 0;
        }

        private void takeIn(Bank bank) {
            for (int r = 0; r < bank.riders && load < capacity; r++) {
                Rider one = bank.people[r];
                boolean here = one.state == WAITS && one.where == floor && one.way == way;
                boolean fits = sort == 0 || sort == one.sort;
                if (here && fits && (joined >>> r & 1) == 0) {
                    aboard |= 1 << r;
                    joined |= 1 << r;
                    load++;
                    goals |= 1L << 4 * one.to;
                }
            }
            long answered = way > 0 ? 3L : way < 0 ? 12L : 0L;
            calls &= ~(answered << 4 * floor);
        }

        void go(int rest) {
            boolean full = load >= capacity;
            long passing = way > 0 ? 3L : way < 0 ? 12L : 0L;
            if (full && (calls >>> 4 * floor & passing) != 0L) {
                passed++;
            }
            int step = way;
            if (way == 0 && rest != floor) {
                step = rest > floor ? 1 : -1;
            }
            floor += step;
            if (step > 0) {
                work = work + (0.7f + 0.3f * (float) load);
            } else if (step < 0) {
                work = work + (0.2f + 0.1f * (float) load);
            }
        }

        /** CALLS at its FLOOR of its WAY and of the SORTS that it takes. */
        long callsAnswered() {
            long up = sort == 0 ? 3L : sort == PERSONS ? 1L : 2L;
            long here = way > 0 ? up : way < 0 ? up << 2 : 0L;
            return here << 4 * floor;
        }

        int stopFloors(int floors) {
            long stops = load < capacity ? goals | calls : goals;
            int bits = 0;
            for (int f = 0; f < floors; f++) {
                if ((stops >>> 4 * f & 15L) != 0L) {
                    bits |= 1 << f;
                }
            }
            return bits;
        }
    }

    /** All that the TEXT told, as TICKS and ACTS have changed it. */
    private static final class Bank {
        int floors = 8;
        int cars = 0;
        int riders = 0;
        int dwell = 2;
        int late = 0;
        int policy = 1;
        int peak = 0;
        int time = 0;
        boolean burning = false;
        /** The CAR that POLICY 0 GAVE to last. */
        private int turn = NONE;
        /** A bit for each of the last 8 RIDERS that came: whether at FLOOR 0. */
        private int arrivals = 0;
        boolean rush = false;
        /** How many RIDERS are DONE. */
        int finished = 0;
        final Car[] lifts = new Car[MAX_CARS];
        final Rider[] people = new Rider[MAX_RIDERS];
        private final Car trial = new Car();

        Bank() {
            for (int c = 0; c < MAX_CARS; c++) {
                lifts[c] = new Car();
            }
            for (int r = 0; r < MAX_RIDERS; r++) {
                people[r] = new Rider();
            }
        }

        void clear() {
            floors = 8;
            cars = 0;
            riders = 0;
            dwell = 2;
            late = 0;
            policy = 1;
            peak = 0;
            time = 0;
            burning = false;
            turn = NONE;
            arrivals = 0;
            rush = false;
            finished = 0;
        }

        void copyFrom(Bank other) {
            floors = other.floors;
            cars = other.cars;
            riders = other.riders;
            dwell = other.dwell;
            late = other.late;
            policy = other.policy;
            peak = other.peak;
            time = other.time;
            burning = other.burning;
            turn = other.turn;
            arrivals = other.arrivals;
            rush = other.rush;
            finished = other.finished;
            for (int c = 0; c < cars; c++) {
                lifts[c].copyFrom(other.lifts[c]);
            }
            for (int r = 0; r < riders; r++) {
                people[r].copyFrom(other.people[r]);
            }
        }

        boolean hasFloor(int floor) {
            return floor >= 0 && floor < floors;
        }

        void addCar(int home, int capacity, int sort) {
            if (cars < MAX_CARS) {
                lifts[cars].tell(home, capacity, sort);
                cars++;
            }
        }

        void addRider(int itsTime, int from, int to, int sort) {
            if (riders < MAX_RIDERS) {
                people[riders].tell(itsTime, from, to, sort);
                riders++;
            }
        }

        int addByHand(int from, int to, int sort) {
            addRider(time, from, to, sort);
            arrive(people[riders - 1]);
            return riders - 1;
        }

        private void arrive(Rider rider) {
            rider.waitAt(rider.from);
            arrivals = (arrivals << 1 | (rider.from == 0 ? 1 : 0)) & 255;
            rush = peak > 0 && Integer.bitCount(arrivals) >= peak;
        }

        void pass(int ticks) {
            for (int n = 0; n < ticks; n++) {
                if (!burning && finished == riders && isAsleep()) {
                    time += ticks - n;
                    return;
                }
                for (int r = 0; r < riders; r++) {
                    if (people[r].state == YET && people[r].time == time) {
                        arrive(people[r]);
                    }
                }
                if (burning) {
                    flee();
                } else {
                    long waiting = callsWaiting();
                    for (int call = 0; call < 4 * floors && waiting >>> call != 0L; call++) {
                        if ((waiting >>> call & 1L) != 0L && wantsCar(call)) {
                            give(call);
                        }
                    }
                    moveCars();
                }
                time++;
                for (int r = 0; r < riders; r++) {
                    if (people[r].state == WAITS) {
                        people[r].waited++;
                    }
                }
            }
        }

        long callsWaiting() {
            long calls = 0L;
            for (int r = 0; r < riders; r++) {
                Rider one = people[r];
                if (one.state == WAITS) {
                    calls |= 1L << callNumber(one.where, one.way, one.sort);
                }
            }
            return calls;
        }

        int holderOf(int call) {
            for (int c = 0; c < cars; c++) {
                if ((lifts[c].calls >>> call & 1L) != 0L) {
                    return c;
                }
            }
            return NONE;
        }

        private boolean wantsCar(int call) {
            int holder = holderOf(call);
            if (holder == NONE) {
                return true;
            }
            Car car = lifts[holder];
            boolean far = Math.abs(car.floor - call / 4) > late;
            return late > 0 && policy != 0 && car.doors == 0 && far;
        }

        private void give(int call) {
            int sort = (call & 1) == 0 ? PERSONS : PARCELS;
            int best = NONE;
            int least = 0;
            for (int i = 0; i < cars; i++) {
                // by turns all cost alike: then the first one behind the last is taken
                int c = policy == 0 ? (turn + 1 + i) % cars : i;
                Car car = lifts[c];
                if (!car.in || !car.takes(sort)) {
                    continue;
                }
                int price = 0;
                if (policy == 1) {
                    price = Math.abs(car.floor - call / 4);
                } else if (policy == 2) {
                    price = costOf(car, call);
                }
                if (best == NONE || price < least) {
                    best = c;
                    least = price;
                }
            }
            takeFromAll(1L << call);
            if (best != NONE) {
                lifts[best].calls |= 1L << call;
                turn = policy == 0 ? best : turn;
            }
        }

        private void takeFromAll(long calls) {
            for (int c = 0; c < cars; c++) {
                lifts[c].calls &= ~calls;
            }
        }

        int costOf(Car car, int call) {
            trial.copyFrom(car);
            trial.calls |= 1L << call;
            int rest = restOf(car);
            int way = (call & 2) == 0 ? 1 : -1;
            for (int n = 0; n < MAX_COST; n++) {
                if (trial.move(this, rest) && trial.floor == call / 4 && trial.way == way) {
                    return n;
                }
            }
            return MAX_COST;
        }

        private void moveCars() {
            for (int c = 0; c < cars; c++) {
                Car car = lifts[c];
                if (car.in) {
                    car.left = 0;
                    car.joined = 0;
                    if (car.move(this, restOf(car))) {
                        settle(c);
                    }
                }
            }
        }

        /** What a CAR that OPENED did to RIDERS, and to CALLS of other CARS. */
        private void settle(int c) {
            Car car = lifts[c];
            for (int r = 0; r < riders; r++) {
                if ((car.left >>> r & 1) != 0) {
                    finish(people[r]);
                }
                if ((car.joined >>> r & 1) != 0) {
                    people[r].board(c, time);
                }
            }
            takeFromAll(car.callsAnswered());
        }

        private void finish(Rider rider) {
            rider.state = DONE;
            rider.where = NONE;
            rider.doneAt = time;
            finished++;
        }

        /** A TICK of a FIRE, in place of (b) and (c): only here CALLS are taken back, not when it begins. */
        private void flee() {
            takeFromAll(-1L);
            for (int c = 0; c < cars; c++) {
                Car car = lifts[c];
                if (car.in) {
                    car.doors = 0;
                    if (car.floor > 0) {
                        car.way = -1;
                        car.go(0);
                    } else {
                        car.way = 0;
                        putOut(car);
                    }
                }
            }
        }

        private void putOut(Car car) {
            for (int r = 0; r < riders; r++) {
                if ((car.aboard >>> r & 1) != 0) {
                    if (people[r].to == car.floor) {
                        finish(people[r]);
                    } else {
                        people[r].waitAt(car.floor);
                    }
                }
            }
            car.empty();
        }

        void putOutOfService(int c) {
            Car car = lifts[c];
            putOut(car);
            car.doors = 0;
            car.way = 0;
            car.calls = 0L;
            car.in = false;
        }

        private int restOf(Car car) {
            return rush ? 0 : car.home;
        }

        int howMany(int state) {
            int found = 0;
            for (int r = 0; r < riders; r++) {
                if (people[r].state == state) {
                    found++;
                }
            }
            return found;
        }

        int waitedInAll() {
            int sum = 0;
            for (int r = 0; r < riders; r++) {
                sum += people[r].waited;
            }
            return sum;
        }

        int passedInAll() {
            int sum = 0;
            for (int c = 0; c < cars; c++) {
                sum += lifts[c].passed;
            }
            return sum;
        }

        float workInAll() {
            float sum = 0f;
            for (int c = 0; c < cars; c++) {
                sum = sum + lifts[c].work;
            }
            return sum;
        }

        int latestDone() {
            int latest = NONE;
            for (int r = 0; r < riders; r++) {
                latest = Math.max(latest, people[r].doneAt);
            }
            return latest;
        }

        int stopped() {
            int found = 0;
            for (int c = 0; c < cars; c++) {
                if (lifts[c].doors > 0) {
                    found++;
                }
            }
            return found;
        }

        int worst() {
            int worst = NONE;
            for (int r = 0; r < riders; r++) {
                if (worst == NONE || people[r].waited > people[worst].waited) {
                    worst = r;
                }
            }
            return worst;
        }

        /** Whether no TICK changes a CAR any more, all RIDERS being DONE. */
        private boolean isAsleep() {
            boolean still = isQuiet();
            for (int c = 0; c < cars; c++) {
                still = still && lifts[c].way == 0;
            }
            return still;
        }

        boolean isQuiet() {
            if (finished < riders) {
                return false;
            }
            for (int c = 0; c < cars; c++) {
                Car car = lifts[c];
                if (car.in && (car.doors > 0 || car.floor != restOf(car))) {
                    return false;
                }
            }
            return true;
        }

        int overtaken() {
            int pairs = 0;
            for (int a = 0; a < riders; a++) {
                for (int b = a + 1; b < riders; b++) {
                    boolean inOrder = people[a].time <= people[b].time;
                    Rider first = inOrder ? people[a] : people[b];
                    Rider second = inOrder ? people[b] : people[a];
                    if (goAlike(first, second) && second.boardedAt != NONE
                            && second.boardedAt < first.boardedAt) {
                        pairs++;
                    }
                }
            }
            return pairs;
        }

        private static boolean goAlike(Rider a, Rider b) {
            return a.from == b.from && a.to > a.from == b.to > b.from && a.sort == b.sort;
        }
    }

    /** The tape, read as a TEXT into a Bank, which is of no use behind a FAULT. */
    private static final class Reader {
        private static final int END = 0;
        private static final int WORD = 1;
        private static final int NUMBER = 2;
        private static final int SIGN = 3;
        private static final int NO_TOKEN = 4;

        private static final int ALIEN = 1;
        private static final int TOO_MUCH = 2;
        private static final int NO_FLOOR = 3;
        private static final int TOO_LATE = 4;
        private static final int SAME_FLOOR = 5;

        private final char[] text = new char[MAX_TAPE];
        /** How many bytes the tape has. */
        int held = 0;
        final Bank bank = new Bank();
        private int length = 0;
        private int at = 0;
        private int kind = END;
        private int start = 0;
        private int value = 0;
        private int clauses = 0;
        /** A bit for each setting that was told. */
        private int told = 0;
        private int problem = 0;
        /** Where the FAULT is; NONE without. */
        int place = NONE;

        void put(int number) {
            for (int shift = 24; shift >= 0 && held < text.length; shift -= 8) {
                text[held] = (char) (number >>> shift & 255);
                held++;
            }
        }

        /** The FAULT of the first n bytes, or 0; the tape is empty then. */
        int read(int n) {
            bank.clear();
            length = Math.min(n, held);
            held = 0;
            at = 0;
            clauses = 0;
            told = 0;
            problem = 0;
            place = NONE;
            next();
            while (clauses <= MAX_TAPE && kind != END && problem == 0) {
                readClause();
                if (kind != SIGN) {
                    fail(ALIEN);
                }
                clauses++;
                next();
            }
            return problem;
        }

        private void fail(int code) {
            if (problem == 0) {
                problem = code;
                place = start;
            }
        }

        /** Goes on to the next TOKEN; behind a FAULT nothing is read any more. */
        private void next() {
            if (problem != 0) {
                return;
            }
            while (at < length && (text[at] == 32 || text[at] == 10)) {
                at++;
            }
            start = at;
            if (at >= length) {
                kind = END;
            } else if (text[at] == ';') {
                kind = SIGN;
                at++;
            } else if (isLetter(text[at])) {
                kind = WORD;
                while (at < length && isLetter(text[at])) {
                    at++;
                }
            } else if (isDigit(text[at])) {
                kind = NUMBER;
                value = 0;
                while (at < length && isDigit(text[at])) {
                    value = Math.min(value * 10 + text[at] - '0', 999);
                    at++;
                }
            } else {
                kind = NO_TOKEN;
            }
        }

        private static boolean isLetter(char sign) {
            return sign >= 'a' && sign <= 'z';
        }

        private static boolean isDigit(char sign) {
            return sign >= '0' && sign <= '9';
        }

        private boolean isWord(String word) {
            if (kind != WORD || at - start != word.length()) {
                return false;
            }
            for (int i = 0; i < word.length(); i++) {
                if (text[start + i] != word.charAt(i)) {
                    return false;
                }
            }
            return true;
        }

        /** From the word that begins it to the TOKEN that must be its sign. */
        private void readClause() {
            if (isWord("floors")) {
                readFloors();
            } else if (isWord("car")) {
                readCar();
            } else if (isWord("rider")) {
                readRider();
            } else if (isWord("dwell")) {
                bank.dwell = readSetting(1, 1, 4);
            } else if (isWord("late")) {
                bank.late = readSetting(2, 0, LATES - 1);
            } else if (isWord("policy")) {
                bank.policy = readSetting(4, 0, POLICIES - 1);
            } else if (isWord("peak")) {
                bank.peak = readSetting(8, 0, 8);
            } else {
                fail(ALIEN);
            }
        }

        private void readFloors() {
            if (clauses > 0) {
                fail(TOO_LATE);
            }
            bank.floors = readNumber(2, 12);
            next();
        }

        private void readCar() {
            if (bank.cars >= MAX_CARS) {
                fail(TOO_MUCH);
            }
            int home = readFloor();
            int capacity = readNumber(1, MAX_CAPACITY);
            next();
            int sort = isWord("persons") ? PERSONS : isWord("parcels") ? PARCELS : 0;
            if (sort != 0) {
                next();
            }
            bank.addCar(home, capacity, sort);
        }

        private void readRider() {
            if (bank.riders >= MAX_TOLD) {
                fail(TOO_MUCH);
            }
            int time = readNumber(0, MAX_TOLD_TIME);
            int from = readFloor();
            int to = readFloor();
            if (to == from) {
                fail(SAME_FLOOR);
            }
            next();
            boolean parcel = isWord("parcel");
            if (parcel) {
                next();
            }
            bank.addRider(time, from, to, parcel ? PARCELS : PERSONS);
        }

        private int readSetting(int bit, int low, int high) {
            if ((told & bit) != 0) {
                fail(TOO_LATE);
            }
            told |= bit;
            int number = readNumber(low, high);
            next();
            return number;
        }

        private int readFloor() {
            int floor = readNumber(0, 99);
            if (floor >= bank.floors) {
                fail(NO_FLOOR);
            }
            return floor;
        }

        /** The NUMBER that comes; low behind a FAULT. */
        private int readNumber(int low, int high) {
            next();
            if (problem == 0 && kind != NUMBER) {
                fail(ALIEN);
            }
            if (problem == 0 && (at - start > 2 || value < low || value > high)) {
                fail(TOO_MUCH);
            }
            return problem == 0 ? value : low;
        }
    }

    /** ALL ANEW: runs of what the TEXT told; those by a POLICY and a LATE alone are run once and kept. */
    private static final class Replay {
        final Bank start = new Bank();
        private final Bank bank = new Bank();
        private final boolean[] known = new boolean[POLICIES * LATES];
        final int[] waited = new int[POLICIES * LATES];
        final int[] done = new int[POLICIES * LATES];
        final int[] latest = new int[POLICIES * LATES];
        final int[] passed = new int[POLICIES * LATES];
        private final float[] work = new float[POLICIES * LATES];
        private final int[] doneAt = new int[POLICIES * LATES * MAX_TOLD];

        void begin(Bank told) {
            start.copyFrom(told);
            for (int at = 0; at < known.length; at++) {
                known[at] = false;
            }
        }

        /** The place at which the run by a POLICY and a LATE is kept. */
        int run(int policy, int late) {
            int at = LATES * policy + late;
            if (known[at]) {
                return at;
            }
            prepare(policy, late);
            bank.pass(LONG_RUN);
            known[at] = true;
            waited[at] = bank.waitedInAll();
            done[at] = bank.finished;
            latest[at] = bank.latestDone();
            passed[at] = bank.passedInAll();
            work[at] = bank.workInAll();
            for (int r = 0; r < bank.riders && r < MAX_TOLD; r++) {
                doneAt[MAX_TOLD * at + r] = bank.people[r].doneAt;
            }
            return at;
        }

        private void prepare(int policy, int late) {
            bank.copyFrom(start);
            bank.policy = policy;
            bank.late = late;
        }

        int doneTime(int at, int rider) {
            return doneAt[MAX_TOLD * at + rider];
        }

        int best(int late) {
            int best = 0;
            for (int policy = 1; policy < POLICIES; policy++) {
                if (waited[run(policy, late)] < waited[run(best, late)]) {
                    best = policy;
                }
            }
            return best;
        }

        int thrift(int late) {
            int best = 0;
            for (int policy = 1; policy < POLICIES; policy++) {
                if (work[run(policy, late)] < work[run(best, late)]) {
                    best = policy;
                }
            }
            return best;
        }

        int room(int policy, int late) {
            for (int capacity = 1; capacity <= MAX_CAPACITY; capacity++) {
                prepare(policy, late);
                for (int c = 0; c < bank.cars; c++) {
                    bank.lifts[c].capacity = capacity;
                }
                bank.pass(LONG_RUN);
                if (bank.passedInAll() == 0) {
                    return capacity;
                }
            }
            return NONE;
        }

        int missed(int policy, int late) {
            int which = NONE;
            int most = 0;
            for (int c = 0; c < start.cars; c++) {
                prepare(policy, late);
                bank.lifts[c].in = false;
                bank.pass(LONG_RUN);
                int sum = bank.waitedInAll();
                if (which == NONE || sum > most) {
                    which = c;
                    most = sum;
                }
            }
            return which;
        }

        int waitedByHome(int car, int home, int policy, int late) {
            prepare(policy, late);
            bank.lifts[car].home = home;
            bank.lifts[car].floor = home;
            bank.pass(LONG_RUN);
            return bank.waitedInAll();
        }

        int doneIfLater(int rider, int more, int policy, int late) {
            prepare(policy, late);
            bank.people[rider].time += more;
            bank.pass(LONG_RUN);
            return bank.people[rider].doneAt;
        }

        /** How many unlike TIMES a RIDER is DONE at (or not) by the runs of these bits, which are known. */
        int unlike(int rider, long runs) {
            int found = 0;
            for (int at = 0; at < known.length; at++) {
                boolean fresh = (runs >>> at & 1L) != 0L;
                for (int before = 0; before < at && fresh; before++) {
                    boolean other = (runs >>> before & 1L) != 0L;
                    fresh = !other || doneTime(before, rider) != doneTime(at, rider);
                }
                if (fresh) {
                    found++;
                }
            }
            return found;
        }
    }

    /** ACTS that are kept: of each, how all was ahead of it. */
    private static final class Acts {
        /** Rows are made when they are first needed, and used again. */
        private final Bank[] rows = new Bank[MAX_ACTS];
        private int first = 0;
        int size = 0;

        void clear() {
            first = 0;
            size = 0;
        }

        void keep(Bank now) {
            if (size >= MAX_ACTS) {
                first = (first + 1) % MAX_ACTS;
                size = MAX_ACTS - 1;
            }
            rowAt((first + size) % MAX_ACTS).copyFrom(now);
            size++;
        }

        private Bank rowAt(int i) {
            Bank row = rows[i];
            if (row == null) {
                row = new Bank();
                rows[i] = row;
            }
            return row;
        }

        boolean takeBack(Bank into) {
            if (size == 0) {
                return false;
            }
            size--;
            into.copyFrom(rowAt((first + size) % MAX_ACTS));
            return true;
        }

        void copyFrom(Acts other) {
            first = other.first;
            size = other.size;
            for (int i = 0; i < size; i++) {
                int at = (first + i) % MAX_ACTS;
                rowAt(at).copyFrom(other.rowAt(at));
            }
        }
    }

    /** All that an IMAGE keeps. */
    private static final class Desk {
        final Bank now = new Bank();
        final Acts acts = new Acts();
        final int[] notedRider = new int[MAX_NOTES];
        final int[] notedTime = new int[MAX_NOTES];
        int noted = 0;
        /** STATUS. */
        final int[] refused = new int[3];

        void begin(Bank told) {
            now.copyFrom(told);
            acts.clear();
            noted = 0;
        }

        void copyFrom(Desk other) {
            now.copyFrom(other.now);
            acts.copyFrom(other.acts);
            noted = other.noted;
            for (int i = 0; i < noted; i++) {
                notedRider[i] = other.notedRider[i];
                notedTime[i] = other.notedTime[i];
            }
            for (int i = 0; i < refused.length; i++) {
                refused[i] = other.refused[i];
            }
        }
    }
}
