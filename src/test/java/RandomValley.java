import java.util.Random;

/** Makes texts of valleys, most of them whole, some of them broken. */
final class RandomValley {
    private static final String[] FACTS = {"worth", "left", "heavy", "far", "mine", "held", "crowd", "day", "craft",
        "force", "noon"};
    private static final String[] BITS = {" ", "\n", ";", "(", ")", "<", ">", "=", "+", "-", "*", "not ", " or ",
        " and ", "food", "near", "7", "99", "100", "10000", "a", "zz", "abcdefghi", "place", "road", "thing", "person",
        "law lot;", "late 3;", "$", "\u00e9", "A", "noon", "hard", "at", "far", "((((", "not not not "};
    private final Random random;
    /** Whether roads are about as long as the time to noon, so that a late bell matters. */
    private boolean slow;

    RandomValley(Random random) {
        this.random = random;
    }

    String text() {
        StringBuilder out = new StringBuilder();
        int places = 1 + random.nextInt(random.nextInt(3) == 0 ? 8 : 4);
        int spread = new int[] {60, 30, 4}[random.nextInt(3)];
        slow = random.nextInt(3) == 0;
        for (int i = 0; i < places; i++) {
            out.append("place ").append(name(i)).append(" noon ").append(random.nextInt(spread)).append(';').append(gap());
        }
        roads(out, places);
        int things = random.nextInt(5) == 0 ? random.nextInt(11) : 2 + random.nextInt(4);
        for (int i = 0; i < things; i++) {
            out.append("thing ").append(name(i)).append(" at ").append(name(random.nextInt(places)));
            out.append(" worth ").append(random.nextInt(100)).append(" wear ").append(random.nextInt(21));
            out.append(" heavy ").append(random.nextInt(3) == 0 ? random.nextInt(100) : 0);
            out.append(random.nextInt(5) == 0 ? " food;" : ";").append(gap());
        }
        people(out, places);
        if (random.nextInt(4) != 0) {
            out.append("law ").append(new String[] {"near", "force", "lot"}[random.nextInt(3)]).append(';');
        }
        if (random.nextInt(2) == 0) {
            out.append("late ").append(random.nextInt(4) == 0 ? 100 * random.nextInt(2) : random.nextInt(101)).append(';');
        }
        String text = out.toString();
        int breaks = random.nextInt(4) == 0 ? 1 + random.nextInt(2) : 0;
        for (int i = 0; i < breaks; i++) {
            text = broken(text);
        }
        return text.length() > 1700 ? text.substring(0, 1700) : text;
    }

    private void roads(StringBuilder out, int places) {
        boolean[] joined = new boolean[64];
        int tries = random.nextInt(places * 2 + 1);
        for (int i = 0, made = 0; i < tries && made < 16; i++) {
            int a = random.nextInt(places);
            int b = random.nextInt(places);
            if (a != b && !joined[a * 8 + b]) {
                joined[a * 8 + b] = true;
                joined[b * 8 + a] = true;
                made++;
                int minutes = slow ? 55 + random.nextInt(40) : 1 + random.nextInt(random.nextBoolean() ? 99 : 20);
                out.append("road ").append(name(a)).append(' ').append(name(b)).append(" minutes ").append(minutes);
                out.append(';').append(gap());
            }
        }
    }

    private void people(StringBuilder out, int places) {
        int people = random.nextInt(5) == 0 ? random.nextInt(7) : 2 + random.nextInt(3);
        for (int i = 0; i < people; i++) {
            out.append("person ").append(name(i)).append(" at ").append(name(random.nextInt(places)));
            out.append(" craft ").append(random.nextInt(10)).append(" force ").append(random.nextInt(100));
            out.append(" hard ").append(random.nextInt(10)).append(" stands ");
            switch (random.nextInt(5)) {
                case 4 -> out.append(random.nextInt(100)).append("+mine*").append(random.nextInt(50)).append("-crowd*9");
                case 0 -> out.append("worth-far");
                case 1 -> out.append("worth*left-far*").append(random.nextInt(100));
                case 2 -> out.append("100-").append(e(2));
                default -> out.append(e(3));
            }
            out.append(';').append(gap());
        }
    }

    private static String name(int i) {
        return new String[] {"a", "b", "c", "ddd", "eeeeeeee", "one", "g", "h", "i", "j", "k"}[i];
    }

    private String gap() {
        return new String[] {"", "", " ", "\n", " \n "}[random.nextInt(5)];
    }

    private String e(int depth) {
        switch (depth <= 0 ? 0 : random.nextInt(10)) {
            case 1:
                return "(" + e(depth - 1) + ")";
            case 2:
                return "(not " + e(depth - 1) + ")";
            case 3:
                return e(depth - 1) + "+" + e(depth - 1);
            case 4:
                return e(depth - 1) + " - " + e(depth - 1);
            case 5:
                return e(depth - 1) + "*" + e(depth - 1);
            case 6:
                return "(" + e(depth - 1) + "<>=".charAt(random.nextInt(3)) + e(depth - 1) + ")";
            case 7:
                return "(" + e(depth - 1) + " or " + e(depth - 1) + ")";
            case 8:
                return "(" + e(depth - 1) + " and " + e(depth - 1) + ")";
            default:
                return random.nextInt(4) == 0 ? "" + random.nextInt(random.nextBoolean() ? 10 : 10000)
                    : FACTS[random.nextInt(FACTS.length)];
        }
    }

    private String broken(String text) {
        if (text.isEmpty()) {
            return text;
        }
        int at = random.nextInt(text.length());
        int to = Math.min(text.length(), at + 1 + random.nextInt(3));
        String bit = BITS[random.nextInt(BITS.length)];
        return switch (random.nextInt(5)) {
            case 0 -> text.substring(0, at) + text.substring(to);
            case 1 -> text.substring(0, at) + bit + text.substring(at);
            case 2 -> text.substring(0, at) + bit + text.substring(to);
            case 3 -> text.substring(0, at);
            default -> text + text.substring(text.lastIndexOf(';', at) + 1);
        };
    }
}
