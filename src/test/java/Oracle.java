import java.util.ArrayList;
import java.util.HashMap;
import java.util.HashSet;
import java.util.List;
import java.util.Map;
import java.util.NoSuchElementException;
import java.util.Set;
import java.util.TreeMap;

/**
 * A second reading of the document, as plain and slow as can be: worlds are copied whole, CALLS are
 * keys of a map, nothing is kept from one answer to the next. RandomRunsTest compares it with LiftBank.
 */
final class Oracle {
    static final class Person {
        int sort, time, from, to;
        String state = "YET";
        int floor = -1, car = -1, waited = 0, done = -1, boarded = -1;

        Person(int time, int from, int to, int sort) {
            this.time = time;
            this.from = from;
            this.to = to;
            this.sort = sort;
        }

        Person copy() {
            Person p = new Person(time, from, to, sort);
            p.state = state;
            p.floor = floor;
            p.car = car;
            p.waited = waited;
            p.done = done;
            p.boarded = boarded;
            return p;
        }

        boolean waits(int f, int way) {
            return state.equals("WAITS") && floor == f && way == way();
        }

        int way() {
            return to > floor ? 1 : -1;
        }
    }

    static final class Cab {
        int sort, capacity, home, floor, way = 0, doors = 0;
        float work = 0f;
        boolean in = true;

        Cab(int home, int capacity, int sort) {
            this.home = home;
            this.floor = home;
            this.capacity = capacity;
            this.sort = sort;
        }

        Cab copy() {
            Cab c = new Cab(home, capacity, sort);
            c.floor = floor;
            c.way = way;
            c.doors = doors;
            c.work = work;
            c.in = in;
            return c;
        }
    }

    static final class World {
        int floors = 8, dwell = 2, late = 0, policy = 1, peak = 0, time = 0, passed = 0, last = -1;
        boolean fire = false;
        List<Cab> cabs = new ArrayList<>();
        List<Person> people = new ArrayList<>();
        List<Integer> came = new ArrayList<>();
        Map<List<Integer>, Integer> given = new HashMap<>();

        World copy() {
            World w = new World();
            w.floors = floors;
            w.dwell = dwell;
            w.late = late;
            w.policy = policy;
            w.peak = peak;
            w.time = time;
            w.passed = passed;
            w.last = last;
            w.fire = fire;
            for (Cab c : cabs) w.cabs.add(c.copy());
            for (Person p : people) w.people.add(p.copy());
            w.came.addAll(came);
            w.given.putAll(given);
            return w;
        }

        List<Person> aboard(int car) {
            List<Person> all = new ArrayList<>();
            for (Person p : people) if (p.state.equals("RIDES") && p.car == car) all.add(p);
            return all;
        }

        boolean full(int car) {
            return aboard(car).size() == cabs.get(car).capacity;
        }

        Set<Integer> stops(int car) {
            Set<Integer> all = new HashSet<>();
            for (Person p : aboard(car)) all.add(p.to);
            if (!full(car)) {
                for (Map.Entry<List<Integer>, Integer> e : given.entrySet()) {
                    if (e.getValue() == car) all.add(e.getKey().get(0));
                }
            }
            return all;
        }

        boolean stop(int car, int way) {
            for (int s : stops(car)) {
                if (way == 1 && s > cabs.get(car).floor) return true;
                if (way == -1 && s < cabs.get(car).floor) return true;
            }
            return false;
        }

        boolean callHere(int car, int way) {
            int f = cabs.get(car).floor;
            for (int sort = 1; sort <= 2; sort++) {
                Integer to = given.get(List.of(f, way, sort));
                if (to != null && to == car) return true;
            }
            return false;
        }

        boolean takes(int car, int sort) {
            return cabs.get(car).sort == 0 || cabs.get(car).sort == sort;
        }

        /** CALLS in the order in which they are GIVEN: up (-1 of the key's middle) ahead of down. */
        List<List<Integer>> calls() {
            TreeMap<String, List<Integer>> sorted = new TreeMap<>();
            for (Person p : people) {
                if (p.state.equals("WAITS")) {
                    String order = String.format("%02d %d %d", p.floor, p.way() == 1 ? 0 : 1, p.sort);
                    sorted.put(order, List.of(p.floor, p.way(), p.sort));
                }
            }
            return new ArrayList<>(sorted.values());
        }

        boolean inPeak() {
            int low = 0;
            for (int i = Math.max(0, came.size() - 8); i < came.size(); i++) if (came.get(i) == 0) low++;
            return peak > 0 && low >= peak;
        }

        int rest(int car) {
            return inPeak() ? 0 : cabs.get(car).home;
        }

        void arrive(Person p) {
            p.state = "WAITS";
            p.floor = p.from;
            came.add(p.from);
        }

        void tick() {
            for (Person p : people) if (p.state.equals("YET") && p.time == time) arrive(p);
            if (fire) {
                given.clear();
                for (int c = 0; c < cabs.size(); c++) if (cabs.get(c).in) fireStep(c);
            } else {
                for (List<Integer> call : calls()) giveIfDue(call);
                for (int c = 0; c < cabs.size(); c++) if (cabs.get(c).in) step(c);
            }
            time++;
            for (Person p : people) if (p.state.equals("WAITS")) p.waited++;
        }

        void giveIfDue(List<Integer> call) {
            Integer holder = given.get(call);
            if (holder != null) {
                if (late == 0 || policy == 0) return;
                Cab c = cabs.get(holder);
                if (c.doors != 0 || Math.abs(c.floor - call.get(0)) <= late) return;
            }
            List<Integer> able = new ArrayList<>();
            for (int c = 0; c < cabs.size(); c++) if (cabs.get(c).in && takes(c, call.get(2))) able.add(c);
            int chosen = -1;
            if (policy == 0) {
                for (int c : able) if (c > last && chosen < 0) chosen = c;
                if (chosen < 0 && !able.isEmpty()) chosen = able.get(0);
                if (chosen >= 0) last = chosen;
            } else {
                long best = Long.MAX_VALUE;
                for (int c : able) {
                    long price = policy == 1 ? Math.abs(cabs.get(c).floor - call.get(0)) : cost(c, call);
                    if (price < best) {
                        best = price;
                        chosen = c;
                    }
                }
            }
            if (chosen < 0) given.remove(call);
            else given.put(call, chosen);
        }

        int cost(int car, List<Integer> call) {
            World w = copy();
            w.given.entrySet().removeIf(e -> e.getValue() != car);
            w.given.put(call, car);
            for (int n = 0; n < 60; n++) {
                boolean opened = w.step(car);
                Cab c = w.cabs.get(car);
                if (opened && c.floor == call.get(0) && c.way == call.get(1)) return n;
            }
            return 60;
        }

        boolean step(int car) {
            Cab c = cabs.get(car);
            if (c.doors > 0) {
                c.doors--;
                if (c.doors > 0) return false;
            }
            boolean opens = false;
            for (Person p : aboard(car)) if (p.to == c.floor) opens = true;
            if (!full(car)) {
                if (c.way != 0 && callHere(car, c.way)) opens = true;
                if ((c.way == 0 || !stop(car, c.way)) && (callHere(car, 1) || callHere(car, -1))) opens = true;
            }
            if (opens) open(car);
            else go(car);
            return opens;
        }

        void open(int car) {
            Cab c = cabs.get(car);
            c.work += 0.4f;
            for (Person p : aboard(car)) if (p.to == c.floor) finish(p);
            if (c.way != 0 && (stop(car, c.way) || callHere(car, c.way))) {
                // it stays
            } else if (callHere(car, 1)) {
                c.way = 1;
            } else if (callHere(car, -1)) {
                c.way = -1;
            } else if (c.way != 0) {
                c.way = stop(car, -c.way) ? -c.way : 0;
            } else {
                c.way = stop(car, 1) ? 1 : stop(car, -1) ? -1 : 0;
            }
            for (Person p : people) {
                if (c.way != 0 && p.waits(c.floor, c.way) && takes(car, p.sort) && !full(car)) {
                    p.state = "RIDES";
                    p.floor = -1;
                    p.car = car;
                    if (p.boarded < 0) p.boarded = time;
                }
            }
            for (int sort = 1; sort <= 2; sort++) if (takes(car, sort)) given.remove(List.of(c.floor, c.way, sort));
            c.doors = dwell;
        }

        void go(int car) {
            Cab c = cabs.get(car);
            if (c.way == 0) {
                c.way = stop(car, 1) ? 1 : stop(car, -1) ? -1 : 0;
            } else if (!stop(car, c.way)) {
                c.way = stop(car, -c.way) ? -c.way : 0;
            }
            if (c.way != 0) {
                if (full(car) && callHere(car, c.way)) passed++;
                travel(car, c.way);
            } else {
                travel(car, Integer.compare(rest(car), c.floor));
            }
        }

        void travel(int car, int by) {
            Cab c = cabs.get(car);
            float n = aboard(car).size();
            if (by > 0) {
                float times = 0.3f * n;
                float both = 0.7f + times;
                c.work = c.work + both;
            }
            if (by < 0) {
                float times = 0.1f * n;
                float both = 0.2f + times;
                c.work = c.work + both;
            }
            c.floor += by;
        }

        void finish(Person p) {
            p.state = "DONE";
            p.floor = -1;
            p.car = -1;
            p.done = time;
        }

        void emptyOut(int car) {
            for (Person p : aboard(car)) {
                if (p.to == cabs.get(car).floor) {
                    finish(p);
                } else {
                    p.state = "WAITS";
                    p.car = -1;
                    p.floor = cabs.get(car).floor;
                }
            }
        }

        void fireStep(int car) {
            Cab c = cabs.get(car);
            c.doors = 0;
            if (c.floor > 0) {
                c.way = -1;
                travel(car, -1);
            } else {
                c.way = 0;
                emptyOut(car);
            }
        }

        int byHand(int from, int to, int sort) {
            Person p = new Person(time, from, to, sort);
            people.add(p);
            arrive(p);
            return people.size() - 1;
        }

        World run(int n) {
            for (int i = 0; i < n; i++) tick();
            return this;
        }

        int waited() {
            return people.stream().mapToInt(p -> p.waited).sum();
        }

        int in(String state) {
            return (int) people.stream().filter(p -> p.state.equals(state)).count();
        }

        float work() {
            float sum = 0f;
            for (Cab c : cabs) sum += c.work;
            return sum;
        }

        boolean quiet() {
            if (in("WAITS") + in("RIDES") + in("YET") > 0) return false;
            for (int c = 0; c < cabs.size(); c++) {
                Cab cab = cabs.get(c);
                if (cab.in && (cab.doors != 0 || cab.floor != rest(c))) return false;
            }
            return true;
        }

        int overtaken() {
            int n = 0;
            for (int i = 0; i < people.size(); i++) {
                for (int j = 0; j < people.size(); j++) {
                    Person a = people.get(i);
                    Person b = people.get(j);
                    boolean bLater = b.time > a.time || b.time == a.time && j > i;
                    boolean alike = a.from == b.from && a.sort == b.sort
                            && Integer.signum(a.to - a.from) == Integer.signum(b.to - b.from);
                    if (bLater && alike && a.boarded >= 0 && b.boarded >= 0 && b.boarded < a.boarded) n++;
                }
            }
            return n;
        }
    }

    /** What an IMAGE keeps. */
    static final class Book {
        World now;
        List<World> acts = new ArrayList<>();
        List<int[]> noted = new ArrayList<>();
        int[] status = new int[3];

        Book copy() {
            Book b = new Book();
            b.now = now.copy();
            for (World w : acts) b.acts.add(w.copy());
            b.noted.addAll(noted);
            b.status = status.clone();
            return b;
        }
    }

    private World told = new World();
    private Book book = new Book();
    private Book image = null;
    private final StringBuilder tape = new StringBuilder();
    private int place = -1;

    Oracle() {
        book.now = told.copy();
    }

    int feed(int a, int b, int c, int d, int e) {
        if (tape.length() > 880) return -1;
        for (int n : new int[] {a, b, c, d, e}) {
            tape.append((char) (n >> 24 & 0xff)).append((char) (n >> 16 & 0xff));
            tape.append((char) (n >> 8 & 0xff)).append((char) (n & 0xff));
        }
        return tape.length();
    }

    int group(int n) {
        if (n < 0 || n > tape.length()) throw new IllegalArgumentException();
        OracleText text = new OracleText(tape.substring(0, n));
        tape.setLength(0);
        place = text.place;
        if (text.fault != 0) {
            book.status[0]++;
            return text.fault;
        }
        told = text.world;
        book.now = told.copy();
        book.acts.clear();
        book.noted.clear();
        image = null;
        return 0;
    }

    int fault() {
        return place;
    }

    World anew(int policy, int late) {
        World w = told.copy();
        w.policy = policy;
        w.late = late;
        return w;
    }

    World anewNow() {
        return anew(book.now.policy, book.now.late);
    }

    int count(int what) {
        World w = book.now;
        switch (what) {
            case 0: return w.floors;
            case 1: return w.cabs.size();
            case 2: return w.people.size();
            case 3: return w.dwell;
            case 4: return w.late;
            case 5: return w.policy;
            case 6: return w.peak;
            case 7: return w.time;
            case 8: return w.fire ? 1 : 0;
            case 9: return w.in("WAITS");
            case 10: return w.in("RIDES");
            case 11: return w.in("DONE");
            case 12: return w.calls().size();
            case 13: return w.passed;
            case 14: return w.waited();
            case 15: return w.inPeak() ? 1 : 0;
            case 16: return worst(w);
            case 17: return best();
            case 18: return room();
            case 19: return missed();
            case 20: return book.acts.size();
            case 21: return book.noted.size();
            case 22: return tape.length();
            case 23: case 24: case 25: return book.status[what - 23];
            case 26: return w.overtaken();
            case 27: return thrift();
            case 28: return (int) w.work();
            case 29: return quiet();
            default: throw new NoSuchElementException();
        }
    }

    private int worst(World w) {
        int best = -1;
        int most = -1;
        for (int i = 0; i < w.people.size(); i++) {
            if (w.people.get(i).waited > most) {
                most = w.people.get(i).waited;
                best = i;
            }
        }
        return best;
    }

    private int best() {
        int best = -1;
        int least = Integer.MAX_VALUE;
        for (int p = 0; p < 3; p++) {
            int sum = anew(p, book.now.late).run(200).waited();
            if (sum < least) {
                least = sum;
                best = p;
            }
        }
        return best;
    }

    private int thrift() {
        int best = -1;
        float least = Float.MAX_VALUE;
        for (int p = 0; p < 3; p++) {
            float sum = anew(p, book.now.late).run(200).work();
            if (sum < least) {
                least = sum;
                best = p;
            }
        }
        return best;
    }

    private int room() {
        for (int n = 1; n <= 6; n++) {
            World w = anewNow();
            for (Cab c : w.cabs) c.capacity = n;
            if (w.run(200).passed == 0) return n;
        }
        return -1;
    }

    private int missed() {
        int which = -1;
        int most = -1;
        for (int c = 0; c < told.cabs.size(); c++) {
            World w = anewNow();
            w.cabs.get(c).in = false;
            int sum = w.run(200).waited();
            if (sum > most) {
                most = sum;
                which = c;
            }
        }
        return which;
    }

    private int quiet() {
        World w = book.now.copy();
        for (int n = 0; n <= 200; n++) {
            if (w.quiet()) return n;
            w.tick();
        }
        return -1;
    }

    int car(int car, int what) {
        World w = book.now;
        if (car < 0 || car >= w.cabs.size()) throw new NoSuchElementException();
        Cab c = w.cabs.get(car);
        switch (what) {
            case 0: return c.sort;
            case 1: return c.capacity;
            case 2: return c.home;
            case 3: return c.floor;
            case 4: return c.way;
            case 5: return c.doors;
            case 6:
                int bits = 0;
                for (int i = 0; i < w.people.size(); i++) {
                    if (w.aboard(car).contains(w.people.get(i))) bits += 1 << i;
                }
                return bits;
            case 7: return c.in ? 1 : 0;
            case 8: return w.stops(car).stream().mapToInt(f -> 1 << f).sum();
            case 9: return Float.floatToIntBits(c.work);
            default: throw new NoSuchElementException();
        }
    }

    int rider(int rider, int what) {
        World w = book.now;
        if (rider < 0 || rider >= w.people.size()) throw new NoSuchElementException();
        Person p = w.people.get(rider);
        switch (what) {
            case 0: return p.sort;
            case 1: return p.time;
            case 2: return p.from;
            case 3: return p.to;
            case 4: return List.of("YET", "WAITS", "RIDES", "DONE").indexOf(p.state);
            case 5: return p.state.equals("WAITS") ? p.floor : p.state.equals("RIDES") ? p.car : -1;
            case 6: return p.waited;
            case 7: return p.done;
            default: throw new NoSuchElementException();
        }
    }

    int given(int floor, boolean up, int sort) {
        World w = book.now;
        if (floor < 0 || floor >= w.floors || sort < 1 || sort > 2) throw new NoSuchElementException();
        List<Integer> call = List.of(floor, up ? 1 : -1, sort);
        if (!w.calls().contains(call)) return -2;
        return w.given.getOrDefault(call, -1);
    }

    int cost(int car, int floor, boolean up, int sort) {
        World w = book.now;
        if (car < 0 || car >= w.cabs.size()) throw new NoSuchElementException();
        if (floor < 0 || floor >= w.floors || sort < 1 || sort > 2) throw new NoSuchElementException();
        if (!w.cabs.get(car).in || !w.takes(car, sort)) throw new IllegalArgumentException();
        return w.cost(car, List.of(floor, up ? 1 : -1, sort));
    }

    private void act() {
        book.acts.add(book.now.copy());
        if (book.acts.size() > 40) book.acts.remove(0);
    }

    private int refuse() {
        book.status[1]++;
        return -1;
    }

    int ticks(int n) {
        if (n < 1 || n > 60 || book.now.time + n > 999) return refuse();
        act();
        book.now.run(n);
        return book.now.time;
    }

    int come(int from, int to, int sort) {
        World w = book.now;
        if (from < 0 || from >= w.floors || to < 0 || to >= w.floors || from == to) return refuse();
        if (sort < 1 || sort > 2 || w.people.size() == 24) return refuse();
        act();
        return w.byHand(from, to, sort);
    }

    boolean out(int car, boolean is) {
        World w = book.now;
        if (car < 0 || car >= w.cabs.size() || w.cabs.get(car).in == !is) {
            refuse();
            return false;
        }
        act();
        Cab c = w.cabs.get(car);
        c.in = !is;
        if (is) {
            w.emptyOut(car);
            c.doors = 0;
            c.way = 0;
            w.given.entrySet().removeIf(e -> e.getValue() == car);
        }
        return true;
    }

    boolean fire(boolean is) {
        if (book.now.fire == is) {
            refuse();
            return false;
        }
        act();
        book.now.fire = is;
        return true;
    }

    int rule(int what, int v) {
        World w = book.now;
        if (what == 0 && v >= 0 && v <= 2) {
            act();
            int was = w.policy;
            w.policy = v;
            return was;
        }
        if (what == 1 && v >= 0 && v <= 11) {
            act();
            int was = w.late;
            w.late = v;
            return was;
        }
        return refuse();
    }

    int undo() {
        if (book.acts.isEmpty()) return -1;
        book.now = book.acts.remove(book.acts.size() - 1);
        return book.acts.size();
    }

    int ahead(int n, int what) {
        if (what < 0 || what > 3) throw new NoSuchElementException();
        if (n < 0 || n > 120) throw new IllegalArgumentException();
        World w = book.now.copy().run(n);
        int open = 0;
        for (Cab c : w.cabs) if (c.doors > 0) open++;
        return new int[] {w.in("DONE"), w.passed, w.waited(), open}[what];
    }

    int when(int rider) {
        if (rider < 0 || rider >= book.now.people.size()) throw new NoSuchElementException();
        return book.now.copy().run(200).people.get(rider).done;
    }

    private void check(int policy, int late) {
        if (policy < 0 || policy > 2 || late < 0 || late > 11) throw new IllegalArgumentException();
    }

    int mean(int policy, int late) {
        check(policy, late);
        if (told.people.isEmpty()) return Float.floatToIntBits(0f);
        float sum = anew(policy, late).run(200).waited();
        return Float.floatToIntBits(sum / told.people.size());
    }

    int anew(int policy, int late, int what) {
        if (what < 0 || what > 2) throw new NoSuchElementException();
        check(policy, late);
        World w = anew(policy, late).run(200);
        int latest = w.people.stream().mapToInt(p -> p.done).max().orElse(-1);
        return new int[] {w.in("DONE"), latest, w.passed}[what];
    }

    int homes(int car, int what) {
        if (car < 0 || car >= told.cabs.size() || what < 0 || what > 1) throw new NoSuchElementException();
        int home = -1;
        int least = Integer.MAX_VALUE;
        for (int f = 0; f < told.floors; f++) {
            World w = anewNow();
            Cab old = w.cabs.get(car);
            w.cabs.set(car, new Cab(f, old.capacity, old.sort));
            int sum = w.run(200).waited();
            if (sum < least) {
                least = sum;
                home = f;
            }
        }
        return what == 0 ? home : least;
    }

    int later(int rider) {
        if (rider < 0 || rider >= told.people.size()) throw new NoSuchElementException();
        int base = anewNow().run(200).people.get(rider).done;
        if (base < 0) return 0;
        int best = 0;
        for (int k = 1; k <= 20; k++) {
            World w = anewNow();
            w.people.get(rider).time += k;
            if (w.people.get(rider).time > 99) continue;
            int done = w.run(200).people.get(rider).done;
            if (done >= 0 && done <= base) best = k;
        }
        return best;
    }

    int note(int rider, int time) {
        if (book.noted.size() == 8 || rider < 0 || rider >= told.people.size() || time < 0 || time > 199) {
            book.status[2]++;
            return -1;
        }
        book.noted.add(new int[] {rider, time});
        return book.noted.size();
    }

    private TreeMap<Integer, World> fitting() {
        TreeMap<Integer, World> all = new TreeMap<>();
        for (int policy = 0; policy < 3; policy++) {
            for (int late = 0; late < 12; late++) {
                World w = anew(policy, late).run(200);
                boolean so = true;
                for (int[] n : book.noted) if (w.people.get(n[0]).done != n[1]) so = false;
                if (so) all.put(12 * policy + late, w);
            }
        }
        return all;
    }

    int fits(int what) {
        if (what < 0 || what > 1) throw new NoSuchElementException();
        TreeMap<Integer, World> all = fitting();
        if (what == 0) return all.size();
        return all.isEmpty() ? -1 : all.firstKey();
    }

    int look(int what) {
        if (what < 0 || what > 1) throw new NoSuchElementException();
        TreeMap<Integer, World> all = fitting();
        int which = -1;
        int most = 0;
        for (int r = 0; r < told.people.size(); r++) {
            Set<Integer> times = new HashSet<>();
            for (World w : all.values()) times.add(w.people.get(r).done);
            if (times.size() > most) {
                most = times.size();
                which = r;
            }
        }
        return what == 0 ? which : most;
    }

    void forget() {
        book.noted.clear();
    }

    private int seed;

    private int draw(int n) {
        seed = (int) ((long) seed * 1103515245L + 12345L);
        return (int) ((seed & 0x7fff0000L) >> 16) % n;
    }

    int years(int start, int n, int what) {
        if (what < 0 || what > 2) throw new NoSuchElementException();
        if (n < 0 || n > 20) throw new IllegalArgumentException();
        World w = book.now.copy();
        seed = start;
        for (int i = 0; i < n; i++) {
            int from = draw(w.floors);
            int to = draw(w.floors - 1);
            to = to < from ? to : to + 1;
            int sort = draw(2) + 1;
            if (w.people.size() != 24) w.byHand(from, to, sort);
            w.run(1 + draw(8));
        }
        return new int[] {w.in("DONE"), w.waited() - book.now.waited(), w.passed - book.now.passed}[what];
    }

    void image() {
        image = book.copy();
    }

    boolean restore() {
        if (image == null) return false;
        book = image.copy();
        return true;
    }
}
