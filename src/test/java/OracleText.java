import java.util.ArrayList;
import java.util.HashSet;
import java.util.List;
import java.util.Set;

/** The TEXT of the Oracle: first all TOKENS, then rows of what each CLAUSE wants. */
final class OracleText {
    final Oracle.World world = new Oracle.World();
    int fault = 0;
    int place = -1;

    private final List<String> tokens = new ArrayList<>();
    private final List<Integer> places = new ArrayList<>();
    private int next = 0;

    private static final class Fault extends RuntimeException {
        private static final long serialVersionUID = 1L;
        final int code;

        Fault(int code) {
            this.code = code;
        }
    }

    OracleText(String text) {
        cut(text);
        try {
            Set<String> once = new HashSet<>();
            for (boolean first = true; next < tokens.size(); first = false) clause(first, once);
        } catch (Fault f) {
            fault = f.code;
            place = next < places.size() ? places.get(next) : text.length();
        }
    }

    private void cut(String text) {
        java.util.regex.Matcher m = java.util.regex.Pattern.compile("[a-z]+|[0-9]+|[^ \n]").matcher(text);
        while (m.find()) {
            tokens.add(m.group());
            places.add(m.start());
        }
    }

    private String token() {
        return next < tokens.size() ? tokens.get(next) : "";
    }

    private void clause(boolean first, Set<String> once) {
        String word = token();
        switch (word) {
            case "floors":
                if (!first) throw new Fault(4);
                next++;
                world.floors = number(2, 12);
                break;
            case "car":
                if (world.cabs.size() == 4) throw new Fault(2);
                next++;
                int home = floor();
                int capacity = number(1, 6);
                world.cabs.add(new Oracle.Cab(home, capacity, word("persons") ? 1 : word("parcels") ? 2 : 0));
                break;
            case "rider":
                if (world.people.size() == 20) throw new Fault(2);
                next++;
                int time = number(0, 99);
                int from = floor();
                int to = floor();
                if (from == to) {
                    next--;
                    throw new Fault(5);
                }
                world.people.add(new Oracle.Person(time, from, to, word("parcel") ? 2 : 1));
                break;
            case "dwell": case "late": case "policy": case "peak":
                if (!once.add(word)) throw new Fault(4);
                next++;
                if (word.equals("dwell")) world.dwell = number(1, 4);
                if (word.equals("late")) world.late = number(0, 11);
                if (word.equals("policy")) world.policy = number(0, 2);
                if (word.equals("peak")) world.peak = number(0, 8);
                break;
            default:
                throw new Fault(1);
        }
        if (!word(";")) throw new Fault(1);
    }

    private boolean word(String w) {
        if (!token().equals(w)) return false;
        next++;
        return true;
    }

    private int number(int low, int high) {
        String t = token();
        if (!t.matches("[0-9]+")) throw new Fault(1);
        if (t.length() > 2 || Integer.parseInt(t) < low || Integer.parseInt(t) > high) throw new Fault(2);
        next++;
        return Integer.parseInt(t);
    }

    private int floor() {
        int f = number(0, 99);
        if (f >= world.floors) {
            next--;
            throw new Fault(3);
        }
        return f;
    }
}
