import java.util.Random;

/** Makes TEXTS at random: most are right, some have a FAULT put into them. */
final class TextMaker {
    private final Random random;

    TextMaker(Random random) {
        this.random = random;
    }

    private int below(int n) {
        return random.nextInt(n);
    }

    String make() {
        StringBuilder text = new StringBuilder();
        int floors = 8;
        if (below(3) != 0) {
            floors = 2 + below(11);
            text.append("floors ").append(floors).append(";");
        }
        int cars = below(8) == 0 ? below(6) : 1 + below(4);
        int riders = below(8) == 0 ? 18 + below(4) : below(15);
        int span = below(4) == 0 ? 100 : 1 + below(30);
        for (int i = 0; i < cars; i++) {
            text.append("car ").append(below(floors)).append(' ').append(1 + below(below(2) == 0 ? 2 : 6));
            text.append(new String[] {";", ";", " persons;", "parcels ;"}[below(4)]);
        }
        int base = below(floors);
        for (int i = 0; i < riders; i++) {
            int from = below(3) == 0 ? base : below(floors);
            int to = (from + 1 + below(floors - 1)) % floors;
            text.append("rider ").append(below(span)).append(' ').append(from).append(' ').append(to);
            text.append(below(3) == 0 ? " parcel;" : below(6) == 0 ? "\n ;" : ";");
        }
        String[] words = {"dwell", "late", "policy", "peak"};
        int[] low = {1, 0, 0, 0};
        int[] room = {4, 12, 3, 9};
        for (int i = 0; i < 4; i++) {
            if (below(2) == 0) text.append(words[i]).append(' ').append(low[i] + below(room[i])).append(';');
        }
        if (below(3) == 0) spoil(text);
        while (text.length() > 900) text.setLength(text.length() - 1);
        return text.toString();
    }

    private void spoil(StringBuilder text) {
        String[] scraps = {";", " ", "0", "7", "12", "99", "123", "000", "car", "rider", "floors 4;", "dwell 2;",
            "late 3;", "policy 1;", "peak 2;", "persons", "parcels", "parcel", "x", "A", "\t", "\u00e9", "-", "\r",
            "car 0 1;", "rider 0 0 1;", "dwell 0;", "dwell 5;", "late 12;", "policy 3;", "peak 9;", "rider 1 1 1;"};
        int times = 1 + below(3);
        for (int i = 0; i < times; i++) {
            int at = below(text.length() + 1);
            int kind = below(4);
            if (kind == 0) {
                text.insert(at, scraps[below(scraps.length)]);
            } else if (kind == 1 && at < text.length()) {
                text.deleteCharAt(at);
            } else if (kind == 2 && at < text.length()) {
                text.setCharAt(at, "0123456789; abz\n".charAt(below(16)));
            } else if (below(3) == 0) {
                text.setLength(at);
            } else {
                // a whole CLAUSE between others
                int end = text.indexOf(";", Math.min(at, Math.max(0, text.length() - 1)));
                if (end >= 0) text.insert(end + 1, scraps[below(scraps.length)]);
            }
        }
    }
}
