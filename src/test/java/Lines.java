/** Lines of a valley's text. */
final class Lines {
    private Lines() {
    }

    static String place(String name, int noon) {
        return "place " + name + " noon " + noon + ";";
    }

    static String road(String from, String to, int minutes) {
        return "road " + from + " " + to + " minutes " + minutes + ";";
    }

    static String thing(String name, String place, int worth, int wear, int heavy) {
        return "thing " + name + " at " + place + " worth " + worth + " wear " + wear + " heavy " + heavy + ";";
    }

    static String food(String name, String place, int worth, int wear, int heavy) {
        return "thing " + name + " at " + place + " worth " + worth + " wear " + wear + " heavy " + heavy + " food;";
    }

    static String person(String name, String place, int craft, int force, int hard, String e) {
        return "person " + name + " at " + place + " craft " + craft + " force " + force + " hard " + hard + " stands " + e
            + ";";
    }

    /** So many places from a on, all of one noon. */
    static String places(int count, int noon) {
        StringBuilder out = new StringBuilder();
        for (int i = 0; i < count; i++) {
            out.append(place(name(i), noon));
        }
        return out.toString();
    }

    /** So many things at a that weigh nothing and do not wear. */
    static String things(int count, int worth) {
        StringBuilder out = new StringBuilder();
        for (int i = 0; i < count; i++) {
            out.append(thing(name(i), "a", worth, 0, 0));
        }
        return out.toString();
    }

    /** So many people at a by one rule, who use nothing. */
    static String people(int count, String e) {
        StringBuilder out = new StringBuilder();
        for (int i = 0; i < count; i++) {
            out.append(person(name(i), "a", 0, 0, 0, e));
        }
        return out.toString();
    }

    static String name(int i) {
        return String.valueOf((char) ('a' + i));
    }

    /** A text, told so many times. */
    static String times(int count, String text) {
        return text.repeat(Math.max(0, count));
    }
}
