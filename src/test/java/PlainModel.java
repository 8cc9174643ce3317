import java.math.BigInteger;
import java.util.ArrayList;
import java.util.Arrays;
import java.util.HashMap;
import java.util.List;
import java.util.Map;
import java.util.function.ToIntFunction;

/** The document said a second time, slowly and with the whole Java library, to hold the class against. */
final class PlainModel {
    static final int NONE = -1;

    static final class Fault extends RuntimeException {
        private static final long serialVersionUID = 1L;
        final int kind;
        final int place;

        Fault(int kind, int place) {
            this.kind = kind;
            this.place = place;
        }
    }

    record Token(char kind, String text, int place) { }

    record Place(String name, int noon) { }

    record Road(int a, int b, int minutes) { }

    record ThingTold(String name, int place, int worth, int wear, int heavy, boolean food) { }

    record PersonTold(String name, int place, int craft, int force, int hard, ToIntFunction<Map<String, Integer>> e) { }

    static final class Text {
        final List<Place> places = new ArrayList<>();
        final List<Road> roads = new ArrayList<>();
        final List<ThingTold> things = new ArrayList<>();
        final List<PersonTold> people = new ArrayList<>();
        int law = NONE;
        int late = NONE;
        int units;

        int far(int a, int b) {
            int[] least = new int[places.size()];
            Arrays.fill(least, 999);
            least[a] = 0;
            for (int i = 0; i < places.size(); i++) {
                for (Road road : roads) {
                    least[road.b] = Math.min(least[road.b], least[road.a] + road.minutes);
                    least[road.a] = Math.min(least[road.a], least[road.b] + road.minutes);
                }
            }
            return least[b];
        }
    }

    static final class Parser {
        static final List<String> RESERVED = List.of("place", "noon", "road", "minutes", "thing", "at", "worth", "wear",
            "heavy", "food", "person", "craft", "force", "hard", "stands", "law", "near", "lot", "late", "or", "and",
            "not", "left", "far", "mine", "held", "crowd", "day");
        static final List<String> FACTS = List.of("worth", "left", "heavy", "far", "mine", "held", "crowd", "day",
            "craft", "force", "noon");
        final List<Token> tokens = new ArrayList<>();
        final Text text = new Text();
        int next;

        Parser(String s) {
            int i = 0;
            while (i < s.length()) {
                char c = s.charAt(i);
                int j = i;
                if (c == ' ' || c == '\n') {
                    i++;
                } else if (c >= 'a' && c <= 'z') {
                    while (j < s.length() && s.charAt(j) >= 'a' && s.charAt(j) <= 'z') {
                        j++;
                    }
                    tokens.add(new Token(j - i > 8 ? '!' : 'w', s.substring(i, j), i));
                    i = j;
                } else if (c >= '0' && c <= '9') {
                    while (j < s.length() && s.charAt(j) >= '0' && s.charAt(j) <= '9') {
                        j++;
                    }
                    boolean letter = j < s.length() && s.charAt(j) >= 'a' && s.charAt(j) <= 'z';
                    tokens.add(new Token(j - i > 4 || letter ? '!' : 'n', s.substring(i, j), i));
                    i = j;
                } else {
                    tokens.add(new Token(";()<>=+-*".indexOf(c) < 0 ? '!' : 's', "" + c, i));
                    i++;
                }
            }
            tokens.add(new Token('e', "", s.length()));
            while (peek().kind != 'e') {
                line();
            }
        }

        Token peek() {
            Token token = tokens.get(next);
            if (token.kind == '!') {
                throw new Fault(1, token.place);
            }
            return token;
        }

        boolean sees(String what) {
            Token token = peek();
            return (token.kind == 'w' || token.kind == 's') && token.text.equals(what);
        }

        void take(String what) {
            if (!sees(what)) {
                throw new Fault(2, peek().place);
            }
            next++;
        }

        int number(String word, int least, int most) {
            take(word);
            Token token = peek();
            if (token.kind != 'n') {
                throw new Fault(2, token.place);
            }
            int n = Integer.parseInt(token.text);
            if (n < least || n > most) {
                throw new Fault(4, token.place);
            }
            next++;
            return n;
        }

        Token name() {
            Token token = peek();
            if (token.kind != 'w' || RESERVED.contains(token.text)) {
                throw new Fault(2, token.place);
            }
            next++;
            return token;
        }

        String newName(List<String> told) {
            Token token = name();
            if (told.contains(token.text)) {
                throw new Fault(3, token.place);
            }
            return token.text;
        }

        int place() {
            Token token = name();
            for (int i = 0; i < text.places.size(); i++) {
                if (text.places.get(i).name.equals(token.text)) {
                    return i;
                }
            }
            throw new Fault(5, token.place);
        }

        void room(boolean there) {
            if (!there) {
                throw new Fault(2, peek().place);
            }
            next++;
        }

        void line() {
            if (sees("place")) {
                room(text.places.size() < 8);
                String name = newName(text.places.stream().map(Place::name).toList());
                text.places.add(new Place(name, number("noon", 0, 59)));
            } else if (sees("road")) {
                room(text.roads.size() < 16);
                int a = place();
                int at = peek().place;
                int b = place();
                if (a == b || text.roads.stream().anyMatch(r -> r.a == a && r.b == b || r.a == b && r.b == a)) {
                    throw new Fault(3, at);
                }
                text.roads.add(new Road(a, b, number("minutes", 1, 99)));
            } else if (sees("thing")) {
                room(text.things.size() < 10);
                String name = newName(text.things.stream().map(ThingTold::name).toList());
                take("at");
                int place = place();
                int worth = number("worth", 0, 99);
                int wear = number("wear", 0, 20);
                int heavy = number("heavy", 0, 99);
                boolean food = sees("food");
                next += food ? 1 : 0;
                text.things.add(new ThingTold(name, place, worth, wear, heavy, food));
            } else if (sees("person")) {
                room(text.people.size() < 6);
                String name = newName(text.people.stream().map(PersonTold::name).toList());
                take("at");
                int place = place();
                int craft = number("craft", 0, 9);
                int force = number("force", 0, 99);
                int hard = number("hard", 0, 9);
                take("stands");
                text.people.add(new PersonTold(name, place, craft, force, hard, e(0)));
            } else if (sees("law")) {
                room(text.law == NONE);
                text.law = List.of("near", "force", "lot").indexOf(peek().text);
                room(text.law != NONE);
            } else if (sees("late")) {
                if (text.late != NONE) {
                    throw new Fault(2, peek().place);
                }
                text.late = number("late", 0, 100);
            } else {
                throw new Fault(2, peek().place);
            }
            take(";");
        }

        ToIntFunction<Map<String, Integer>> e(int within) {
            ToIntFunction<Map<String, Integer>> a = both(within);
            while (sees("or")) {
                next++;
                ToIntFunction<Map<String, Integer>> l = a;
                ToIntFunction<Map<String, Integer>> r = both(within);
                a = m -> l.applyAsInt(m) != 0 | r.applyAsInt(m) != 0 ? 1 : 0;
            }
            return a;
        }

        ToIntFunction<Map<String, Integer>> both(int within) {
            ToIntFunction<Map<String, Integer>> a = one(within);
            while (sees("and")) {
                next++;
                ToIntFunction<Map<String, Integer>> l = a;
                ToIntFunction<Map<String, Integer>> r = one(within);
                a = m -> l.applyAsInt(m) != 0 & r.applyAsInt(m) != 0 ? 1 : 0;
            }
            return a;
        }

        ToIntFunction<Map<String, Integer>> one(int within) {
            if (sees("not")) {
                room(within <= 6);
                ToIntFunction<Map<String, Integer>> a = one(within + 1);
                return m -> a.applyAsInt(m) == 0 ? 1 : 0;
            }
            ToIntFunction<Map<String, Integer>> a = sum(within);
            if (sees("<") || sees(">") || sees("=")) {
                String sign = tokens.get(next++).text;
                ToIntFunction<Map<String, Integer>> b = sum(within);
                return m -> {
                    int order = Integer.compare(a.applyAsInt(m), b.applyAsInt(m));
                    return order == "<=>".indexOf(sign) - 1 ? 1 : 0;
                };
            }
            return a;
        }

        ToIntFunction<Map<String, Integer>> sum(int within) {
            ToIntFunction<Map<String, Integer>> a = term(within);
            while (sees("+") || sees("-")) {
                int factor = tokens.get(next++).text.equals("+") ? 1 : -1;
                ToIntFunction<Map<String, Integer>> l = a;
                ToIntFunction<Map<String, Integer>> r = term(within);
                a = m -> l.applyAsInt(m) + factor * r.applyAsInt(m);
            }
            return a;
        }

        ToIntFunction<Map<String, Integer>> term(int within) {
            ToIntFunction<Map<String, Integer>> a = unit(within);
            while (sees("*")) {
                next++;
                ToIntFunction<Map<String, Integer>> l = a;
                ToIntFunction<Map<String, Integer>> r = unit(within);
                a = m -> l.applyAsInt(m) * r.applyAsInt(m);
            }
            return a;
        }

        ToIntFunction<Map<String, Integer>> unit(int within) {
            Token token = peek();
            boolean fact = token.kind == 'w' && FACTS.contains(token.text);
            boolean open = sees("(");
            if (token.kind != 'n' && !fact && !open || text.units == 80 || open && within == 7) {
                throw new Fault(2, token.place);
            }
            text.units++;
            next++;
            if (open) {
                ToIntFunction<Map<String, Integer>> a = e(within + 1);
                take(")");
                return a;
            }
            int n = fact ? 0 : Integer.parseInt(token.text);
            return fact ? m -> m.get(token.text) : m -> n;
        }
    }

    /** What an image keeps. */
    static final class State implements Cloneable {
        int[] owner;
        int[] left;
        int[] crowd;
        int[] worth;
        boolean[] eaten;
        int[] at;
        int[] made;
        int days;
        int lateDays;
        int w = 1;
        List<int[]> kept = new ArrayList<>();

        State(Text text, int w) {
            int things = text.things.size();
            owner = new int[things];
            Arrays.fill(owner, NONE);
            left = new int[things];
            Arrays.fill(left, 100);
            crowd = new int[things];
            worth = text.things.stream().mapToInt(ThingTold::worth).toArray();
            eaten = new boolean[things];
            at = text.people.stream().mapToInt(PersonTold::place).toArray();
            made = new int[at.length];
            this.w = w;
        }

        State copy() {
            try {
                State other = (State) clone();
                other.owner = owner.clone();
                other.left = left.clone();
                other.crowd = crowd.clone();
                other.worth = worth.clone();
                other.eaten = eaten.clone();
                other.at = at.clone();
                other.made = made.clone();
                other.kept = new ArrayList<>(kept);
                return other;
            } catch (CloneNotSupportedException e) {
                throw new IllegalStateException(e);
            }
        }

        int draw(int n) {
            w = w * 1103515245 + 12345;
            return (w >>> 16) % n;
        }
    }

    record Tale(int day, int thing, int person, int told, int[] untold) {
        boolean counts(int k) {
            return told <= k && (untold[0] == NONE || untold[0] > k);
        }
    }

    StringBuilder tape = new StringBuilder();
    Text text = new Text();
    State now = new State(text, 1);
    State[] boxes = new State[3];
    List<Tale> tales = new ArrayList<>();
    int time;
    int fault;
    int faultPlace = NONE;
    /** Lots that a trial forces, instead of draws; null: draws. */
    int[] forced;
    List<Integer> forcedOf;

    int feed(int... five) {
        if (tape.length() + 20 > 1700) {
            return NONE;
        }
        for (int n : five) {
            for (int shift : new int[] {24, 16, 8, 0}) {
                tape.append((char) (n >>> shift & 255));
            }
        }
        return tape.length();
    }

    int end(int n) {
        if (n < 0 || n > tape.length()) {
            return NONE;
        }
        tape.setLength(n);
        return n;
    }

    int valley() {
        String s = tape.toString();
        tape.setLength(0);
        try {
            text = new Parser(s).text;
        } catch (Fault f) {
            fault = f.kind;
            faultPlace = f.place;
            return NONE;
        }
        fault = 0;
        faultPlace = NONE;
        now = new State(text, now.w);
        tales.clear();
        Arrays.fill(boxes, null);
        return text.people.size();
    }

    int fault(int what) {
        return what == 0 ? fault : what == 1 ? faultPlace : NONE;
    }

    int lawNow() {
        return Math.max(0, text.law);
    }

    int late() {
        return Math.max(0, text.late);
    }

    int use(State s) {
        int sum = 0;
        for (int p = 0; p < s.at.length; p++) {
            int hard = text.people.get(p).hard;
            for (int t = 0; t < s.owner.length; t++) {
                if (s.owner[t] == p) {
                    int makes = s.worth[t] * s.left[t] * hard / 100;
                    s.made[p] += makes;
                    sum += makes;
                    s.left[t] -= text.things.get(t).wear * hard / 10;
                    s.left[t] = s.left[t] < 0 ? 0 : s.left[t];
                    if (text.things.get(t).food && hard > 0) {
                        s.owner[t] = NONE;
                        s.eaten[t] = true;
                    }
                }
            }
        }
        return sum;
    }

    void mend(State s) {
        for (int p = 0; p < s.at.length; p++) {
            int least = 101;
            int which = NONE;
            for (int t = s.owner.length - 1; t >= 0; t--) {
                if (s.owner[t] == p && s.left[t] <= least) {
                    least = s.left[t];
                    which = t;
                }
            }
            if (which >= 0) {
                s.left[which] += text.people.get(p).craft;
                s.left[which] = s.left[which] > 100 ? 100 : s.left[which];
            }
        }
    }

    int e(State s, State began, int p, int t) {
        Map<String, Integer> m = new HashMap<>();
        ThingTold told = text.things.get(t);
        m.put("worth", s.worth[t]);
        m.put("left", began.left[t]);
        m.put("heavy", told.heavy);
        m.put("far", text.far(s.at[p], told.place));
        m.put("mine", began.owner[t] == p ? 1 : 0);
        m.put("held", began.owner[t] != NONE ? 1 : 0);
        m.put("crowd", began.crowd[t]);
        m.put("day", s.days + 1);
        m.put("craft", text.people.get(p).craft);
        m.put("force", text.people.get(p).force);
        m.put("noon", text.places.get(told.place).noon);
        return text.people.get(p).e.applyAsInt(m);
    }

    /** The aim at the start of a day (noonNow NONE) or behind a noon. */
    int aim(State s, State began, int p, int noonNow, boolean late) {
        int best = NONE;
        int most = 0;
        for (int t = 0; t < s.owner.length; t++) {
            int noon = text.places.get(text.things.get(t).place).noon;
            int far = text.far(s.at[p], text.things.get(t).place);
            boolean can = noonNow == NONE ? far <= 60 + noon + (late ? 10 : 0) : noon > noonNow && far <= noon - noonNow;
            if (can && !s.eaten[t] && e(s, began, p, t) > most) {
                most = e(s, began, p, t);
                best = t;
            }
        }
        return best;
    }

    void noons(State s, int law, boolean late) {
        State began = s.copy();
        int people = s.at.length;
        int[] by = new int[people];
        int[] walk = new int[people];
        for (int p = 0; p < people; p++) {
            go(s, p, aim(s, began, p, NONE, late), by, walk);
        }
        for (int noon = 0; noon < 60; noon++) {
            for (int place = 0; place < text.places.size(); place++) {
                if (text.places.get(place).noon == noon) {
                    for (int t = 0; t < s.owner.length; t++) {
                        if (text.things.get(t).place == place && !s.eaten[t]) {
                            strike(s, t, law, by, walk);
                        }
                    }
                    for (int p = 0; p < people; p++) {
                        if (by[p] != NONE && text.things.get(by[p]).place == place) {
                            go(s, p, aim(s, began, p, noon, late), by, walk);
                        }
                    }
                }
            }
        }
    }

    void go(State s, int p, int t, int[] by, int[] walk) {
        by[p] = t;
        if (t != NONE) {
            walk[p] = text.far(s.at[p], text.things.get(t).place);
            s.at[p] = text.things.get(t).place;
        }
    }

    void strike(State s, int t, int law, int[] by, int[] walk) {
        List<Integer> take = new ArrayList<>();
        s.crowd[t] = 0;
        for (int p = 0; p < by.length; p++) {
            if (by[p] == t) {
                s.crowd[t]++;
                if (text.people.get(p).force >= text.things.get(t).heavy) {
                    take.add(p);
                }
            }
        }
        if (s.crowd[t] == 0) {
            s.owner[t] = text.things.get(t).heavy == 0 ? NONE : s.owner[t];
        } else if (!take.isEmpty()) {
            s.owner[t] = byLaw(s, t, law, take, walk);
        }
    }

    int byLaw(State s, int t, int law, List<Integer> take, int[] walk) {
        if (law == 2) {
            if (take.size() == 1) {
                return take.get(0);
            }
            if (forced != null) {
                forcedOf.set(t, take.size());
                return take.get(forced[t] % take.size());
            }
            return take.get(s.draw(take.size()));
        }
        take.sort((a, b) -> law == 0 ? walk[a] - walk[b] : text.people.get(b).force - text.people.get(a).force);
        return take.get(0);
    }

    int day(State s, int law) {
        int sum = use(s);
        mend(s);
        boolean late = late() != 0 && s.draw(100) < late();
        noons(s, law, late);
        s.days++;
        s.lateDays += late ? 1 : 0;
        if (s.days <= 60) {
            s.kept.add(s.owner.clone());
        }
        return sum;
    }

    int run(int days) {
        if (days < 0 || days > 100 || now.days + days > 10000) {
            return NONE;
        }
        int sum = 0;
        for (int i = 0; i < days; i++) {
            sum += day(now, lawNow());
        }
        return sum;
    }

    boolean isThing(int t) {
        return t >= 0 && t < text.things.size();
    }

    boolean isPerson(int p) {
        return p >= 0 && p < text.people.size();
    }

    int thing(int t, int what) {
        if (!isThing(t) || what < 0 || what > 5) {
            return -2;
        }
        return new int[] {now.owner[t], now.left[t], now.crowd[t], now.eaten[t] ? 1 : 0, text.things.get(t).place,
            now.worth[t]}[what];
    }

    int person(int p, int what) {
        if (!isPerson(p) || what < 0 || what > 3) {
            return -2;
        }
        return new int[] {now.at[p], now.made[p], (int) Arrays.stream(now.owner).filter(o -> o == p).count(),
            aim(now, now, p, NONE, false)}[what];
    }

    int far(int a, int b) {
        int n = text.places.size();
        return a < 0 || b < 0 || a >= n || b >= n ? NONE : text.far(a, b);
    }

    boolean give(int t, int p) {
        if (!isThing(t) || p != NONE && !isPerson(p) || now.eaten[t]) {
            return false;
        }
        now.owner[t] = p;
        return true;
    }

    int chip(int t, int by) {
        if (!isThing(t) || by < 0 || by > now.worth[t]) {
            return NONE;
        }
        return now.worth[t] -= by;
    }

    int asks(int p, int t) {
        return isPerson(p) && isThing(t) ? e(now, now, p, t) : -1000000;
    }

    /** By going through all lots of the thing, late and not. */
    int[] odds(int t, int p, int chipped) {
        BigInteger up = BigInteger.ZERO;
        int[] wins = new int[2];
        int[] lots = new int[2];
        for (int late = 0; late < 2; late++) {
            for (int lot = 0; lot < 60; lot++) {
                State s = now.copy();
                s.worth[t] -= chipped;
                use(s);
                mend(s);
                if (s.eaten[t]) {
                    return null;
                }
                forced = new int[s.owner.length];
                forced[t] = lot;
                forcedOf = new ArrayList<>(java.util.Collections.nCopies(s.owner.length, 1));
                noons(s, lawNow(), late == 1);
                forced = null;
                lots[late]++;
                wins[late] += s.owner[t] == p ? 1 : 0;
                if (lots[late] == forcedOf.get(t)) {
                    break;
                }
            }
        }
        BigInteger down = BigInteger.valueOf(100L * lots[0] * lots[1]);
        up = up.add(BigInteger.valueOf((long) (100 - late()) * wins[0] * lots[1]));
        up = up.add(BigInteger.valueOf((long) late() * wins[1] * lots[0]));
        BigInteger g = up.gcd(down);
        return new int[] {up.divide(g).intValue(), down.divide(g).intValue()};
    }

    int chance(int t, int p, int part) {
        if (!isThing(t) || p != NONE && !isPerson(p) || part < 0 || part > 1) {
            return NONE;
        }
        int[] odds = odds(t, p, 0);
        return odds == null ? NONE : odds[part];
    }

    boolean spent() {
        return Math.pow(text.things.size() + 1, text.people.size()) > 20000;
    }

    boolean can(int p, int t) {
        int place = text.things.get(t).place;
        return !now.eaten[t] && text.far(now.at[p], place) <= 60 + text.places.get(place).noon;
    }

    /** Each person's pay, and at the end how many lose. */
    int[] pays(int[] row) {
        int people = row.length;
        int[] pay = new int[people + 1];
        for (int t = 0; t < text.things.size(); t++) {
            List<Integer> take = new ArrayList<>();
            int crowd = 0;
            int[] walk = new int[people];
            boolean owner = false;
            for (int p = 0; p < people; p++) {
                if (row[p] == t) {
                    crowd++;
                    owner |= now.owner[t] == p;
                    walk[p] = text.far(now.at[p], text.things.get(t).place);
                    if (text.people.get(p).force >= text.things.get(t).heavy) {
                        take.add(p);
                    }
                }
            }
            int value = now.worth[t] * now.left[t] / 100;
            if (take.isEmpty()) {
                pay[people] += owner ? crowd - 1 : crowd;
            } else {
                pay[people] += crowd - 1;
                int part = value / take.size();
                if (lawNow() == 2) {
                    take.forEach(p -> pay[p] += part);
                } else {
                    pay[byLaw(null, t, lawNow(), take, walk)] += value;
                }
            }
        }
        return pay;
    }

    boolean choices(int[] row) {
        for (int p = 0; p < row.length; p++) {
            if (row[p] < text.things.size() && !can(p, row[p])) {
                return false;
            }
        }
        return true;
    }

    List<int[]> restRows() {
        List<int[]> rows = new ArrayList<>();
        int base = text.things.size() + 1;
        int people = text.people.size();
        int many = (int) Math.pow(base, people);
        for (int i = 0; i < many; i++) {
            int[] row = new int[people];
            int rest = i;
            for (int p = people - 1; p >= 0; p--) {
                row[p] = rest % base;
                rest /= base;
            }
            if (choices(row) && atRest(row)) {
                rows.add(row);
            }
        }
        return rows;
    }

    boolean atRest(int[] row) {
        int[] pay = pays(row);
        for (int p = 0; p < row.length; p++) {
            for (int t = 0; t <= text.things.size(); t++) {
                int[] other = row.clone();
                other[p] = t;
                if (choices(other) && pays(other)[p] > pay[p]) {
                    return false;
                }
            }
        }
        return true;
    }

    int rest(int what) {
        if (what < 0 || what > 2) {
            return NONE;
        }
        if (spent()) {
            return -2;
        }
        List<int[]> rows = restRows();
        if (what == 0) {
            return rows.size();
        }
        int people = text.people.size();
        return what == 1
            ? rows.stream().mapToInt(r -> Arrays.stream(pays(r), 0, people).sum()).max().orElse(NONE)
            : rows.stream().mapToInt(r -> pays(r)[people]).min().orElse(NONE);
    }

    int stands(int i, int p) {
        if (spent()) {
            return -2;
        }
        if (i < 0 || !isPerson(p)) {
            return -3;
        }
        List<int[]> rows = restRows();
        if (i >= rows.size()) {
            return -3;
        }
        int t = rows.get(i)[p];
        return t == text.things.size() ? NONE : t;
    }

    int made(int n, int by) {
        if (n < 0 || n > 40 || by < 0 || by > 4) {
            return NONE;
        }
        State s = now.copy();
        int sum = 0;
        for (int i = 0; i < n; i++) {
            if (by == 4) {
                sum += use(s);
                mend(s);
            } else {
                sum += day(s, by == 0 ? lawNow() : by - 1);
            }
        }
        return sum;
    }

    int law(int n) {
        if (n < 0 || n > 40) {
            return NONE;
        }
        int near = made(n, 1);
        int force = made(n, 2);
        int lot = made(n, 3);
        return near >= force && near >= lot ? 0 : force >= lot ? 1 : 2;
    }

    BigInteger[] best(int t, int left, int n, int c, Map<Integer, BigInteger[]> seen) {
        if (n == 0) {
            return new BigInteger[] {BigInteger.ZERO, BigInteger.ZERO};
        }
        BigInteger[] old = seen.get(n * 1000 + left);
        if (old != null) {
            return old;
        }
        BigInteger[] best = null;
        for (int h = 0; h <= 9; h++) {
            BigInteger sum = BigInteger.valueOf((long) now.worth[t] * left * h * 10);
            if (!text.things.get(t).food || h == 0) {
                int then = Math.max(0, left - text.things.get(t).wear * h / 10);
                BigInteger behind = best(t, then, n - 1, c, seen)[1];
                sum = sum.add(behind.multiply(BigInteger.valueOf(c)).divide(BigInteger.valueOf(100)));
            }
            if (best == null || sum.compareTo(best[1]) > 0) {
                best = new BigInteger[] {BigInteger.valueOf(h), sum};
            }
        }
        seen.put(n * 1000 + left, best);
        return best;
    }

    int used(int t, int n, int c, int what) {
        if (!isThing(t) || n < 1 || n > 30 || c < 0 || c > 100 || what < 0 || what > 1 || now.eaten[t]) {
            return NONE;
        }
        return best(t, now.left[t], n, c, new HashMap<>())[what].intValueExact();
    }

    int keeps(int t) {
        if (!isThing(t) || now.owner[t] == NONE) {
            return NONE;
        }
        for (int c = 0; c <= now.worth[t]; c++) {
            int[] odds = odds(t, now.owner[t], c);
            if (odds != null && odds[0] == 1 && odds[1] == 1) {
                return c;
            }
        }
        return NONE;
    }

    int lift(int a, int b) {
        if (!isPerson(a) || !isPerson(b) || a == b) {
            return NONE;
        }
        int bits = 0;
        int fa = text.people.get(a).force;
        int fb = text.people.get(b).force;
        for (int t = 0; t < text.things.size(); t++) {
            int heavy = text.things.get(t).heavy;
            bits += heavy > Math.max(fa, fb) && heavy <= fa + fb ? (int) Math.pow(2, t) : 0;
        }
        return bits;
    }

    int tour(int p) {
        return isPerson(p) ? tourFrom(now.at[p], -60, 0) : NONE;
    }

    int tourFrom(int place, int clock, int seen) {
        int most = 0;
        for (int next = 0; next < text.places.size(); next++) {
            int there = next;
            int noon = text.places.get(next).noon;
            boolean has = false;
            for (int t = 0; t < now.owner.length; t++) {
                has |= text.things.get(t).place == there && !now.eaten[t];
            }
            if (has && (seen >> next & 1) == 0 && text.far(place, next) <= noon - clock) {
                most = Math.max(most, 1 + tourFrom(next, noon, seen | 1 << next));
            }
        }
        return most;
    }

    int since(int t) {
        if (!isThing(t) || now.owner[t] == NONE || now.days == 0 || now.days > 60) {
            return NONE;
        }
        if (now.kept.get(now.days - 1)[t] != now.owner[t]) {
            return NONE;
        }
        int d = now.days;
        while (d > 1 && now.kept.get(d - 2)[t] == now.owner[t]) {
            d--;
        }
        return d;
    }

    int tale(int day, int t, int p) {
        if (day < 1 || day > 60 || !isThing(t) || p != NONE && !isPerson(p) || tales.size() == 40) {
            return NONE;
        }
        tales.add(new Tale(day, t, p, time, new int[] {NONE}));
        return tales.size() - 1;
    }

    boolean untell(int tale) {
        if (tale < 0 || tale >= tales.size() || tales.get(tale).untold[0] != NONE) {
            return false;
        }
        tales.get(tale).untold[0] = time;
        return true;
    }

    int later(int by) {
        return by < 0 || by > 1000 || time + by > 100000 ? NONE : (time += by);
    }

    int judge(int what, int k) {
        List<Tale> counting = tales.stream().filter(t -> t.counts(k)).toList();
        List<Tale> wrong = counting.stream()
            .filter(t -> t.day <= now.days && now.kept.get(t.day - 1)[t.thing] != t.person).toList();
        if (what == 0) {
            return wrong.size();
        }
        if (what == 1) {
            return (int) counting.stream().filter(t -> t.day > now.days).count();
        }
        if (what == 2) {
            return wrong.isEmpty() ? NONE : indexOf(wrong.get(0));
        }
        if (what == 3) {
            for (Tale t : counting) {
                if (counting.stream().anyMatch(o -> indexOf(o) < indexOf(t) && o.day == t.day && o.thing == t.thing
                    && o.person != t.person)) {
                    return indexOf(t);
                }
            }
        }
        return NONE;
    }

    int indexOf(Tale tale) {
        for (int i = 0; i < tales.size(); i++) {
            if (tales.get(i) == tale) {
                return i;
            }
        }
        return NONE;
    }

    int seed(int w) {
        int old = now.w;
        now.w = w;
        return old;
    }

    int image(int box) {
        if (box < 0 || box > 2) {
            return NONE;
        }
        boxes[box] = now.copy();
        return now.days;
    }

    int back(int box) {
        if (box < 0 || box > 2 || boxes[box] == null) {
            return NONE;
        }
        now = boxes[box].copy();
        return now.days;
    }

    int about(int what) {
        if (what < 0 || what > 10) {
            return NONE;
        }
        return new int[] {text.places.size(), text.roads.size(), text.things.size(), text.people.size(), now.days,
            tales.size(), time, tape.length(), now.w, text.units, now.lateDays}[what];
    }
}
