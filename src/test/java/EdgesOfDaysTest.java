/** The edges of days and of promises 6 to 12: a test for each sentence of the document, which it quotes. */
public final class EdgesOfDaysTest {
    private static final Due due = new Due("EdgesOfDaysTest");
    private static final String A = Lines.place("a", 0);
    private static final int[] NO_WHAT = {-1, Integer.MIN_VALUE, Integer.MAX_VALUE};

    public static void main(String[] args) {
        thingAtFirst();
        personAtFirst();
        ways();
        makes();
        wears();
        eats();
        mends();
        lateBell();
        aims();
        walks();
        noons();
        noneTakes();
        laws();
        aimsAnew();
        ints();
        facts();
        draws();
        run();
        runRefused();
        thing();
        thingRefused();
        person();
        personRefused();
        far();
        give();
        giveRefused();
        chip();
        chipRefused();
        asks();
        asksRefused();
        due.end();
    }

    private static void thingAtFirst() {
        due.quote("A THING has an OWNER (nobody at first), LEFT (100 at first; what it is still good for, 0 .. 100),"
            + " a CROWD (0 at first: how many stood by it at its latest noon), or is EATEN.");
        NoonSquare x = Due.valley(A + Lines.thing("s", "a", 1, 20, 0) + Lines.thing("t", "a", 1, 20, 1)
            + Lines.thing("u", "a", 1, 0, 1) + Lines.food("f", "a", 1, 0, 1)
            + Lines.person("x", "a", 0, 0, 9, "(day<3)*(heavy=0)") + Lines.person("y", "a", 9, 0, 0, "(day=1)*(heavy=0)"));
        for (int thing = 0; thing < 4; thing++) {
            due.is("nobody's at first", x.thing(thing, 0), -1);
            due.is("100 at first", x.thing(thing, 1), 100);
            due.is("no crowd at first", x.thing(thing, 2), 0);
            due.is("not eaten at first", x.thing(thing, 3), 0);
        }
        x.give(1, 0);
        x.give(2, 1);
        x.give(3, 0);
        int[] left = {82, 64, 46, 28, 10, 0, 0};
        int[] crowd = {2, 1, 0, 0, 0, 0, 0};
        for (int day = 0; day < left.length; day++) {
            x.run(1);
            due.is("left behind day " + (day + 1), x.thing(1, 1), left[day]);
            due.is("crowd behind day " + (day + 1), x.thing(0, 2), crowd[day]);
            due.is("never above 100", x.thing(2, 1), 100);
            due.is("eaten", x.thing(3, 3), 1);
        }
    }

    private static void personAtFirst() {
        due.quote("A PERSON is at a PLACE (as told at first), has MADE so much (0), in all.");
        NoonSquare x = Due.valley(A + Lines.place("b", 0) + Lines.thing("s", "a", 10, 0, 1) + Lines.person("x", "b", 0, 0, 3, "1")
            + Lines.person("y", "a", 0, 0, 3, "0"));
        due.is("place of x", x.person(0, 0), 1);
        due.is("place of y", x.person(1, 0), 0);
        due.is("made by x", x.person(0, 1), 0);
        due.is("made by y", x.person(1, 1), 0);
        x.give(0, 1);
        for (int day = 1; day <= 3; day++) {
            x.run(1);
            due.is("made by y in all", x.person(1, 1), 30 * day);
        }
        x.give(0, 0);
        x.run(1);
        due.is("it stays his", x.person(1, 1), 90);
        due.is("made by x", x.person(0, 1), 30);
    }

    private static void ways() {
        due.quote("FAR of two PLACES: the least minutes by roads (0 of one; 999: no way).");
        StringBuilder chain = new StringBuilder(Lines.places(8, 0));
        for (int i = 1; i < 7; i++) {
            chain.append(Lines.road(Lines.name(i - 1), Lines.name(i), 99));
        }
        NoonSquare x = Due.valley(chain.toString());
        due.is("of one", x.far(0, 0), 0);
        due.is("of one without roads", x.far(7, 7), 0);
        due.is("one road", x.far(0, 1), 99);
        due.is("six roads", x.far(0, 6), 594);
        due.is("six roads back", x.far(6, 0), 594);
        due.is("no way", x.far(0, 7), 999);
        due.is("no way back", x.far(7, 6), 999);
        x = Due.valley(chain + Lines.road("g", "h", 99));
        due.is("the most minutes that a way can have", x.far(0, 7), 693);
        x = Due.valley(Lines.places(3, 0) + Lines.road("a", "b", 50) + Lines.road("b", "c", 25) + Lines.road("c", "a", 24));
        due.is("around, one minute less", x.far(0, 1), 49);
        x = Due.valley(Lines.places(3, 0) + Lines.road("a", "b", 50) + Lines.road("b", "c", 25) + Lines.road("c", "a", 26));
        due.is("straight, one minute less", x.far(0, 1), 50);
        x = Due.valley(Lines.places(2, 0) + Lines.road("a", "b", 1));
        due.is("the least minutes of two", x.far(1, 0), 1);
        x = Due.valley(Lines.places(3, 0) + Lines.road("a", "b", 5) + Lines.road("a", "c", 6));
        due.is("by way of the first", x.far(1, 2), 11);
        x = Due.valley(Lines.places(8, 0) + Lines.road("h", "b", 5) + Lines.road("a", "h", 6));
        due.is("by way of the last", x.far(0, 1), 11);
    }

    /** What one person makes of things that are given to him and stay his, day by day. */
    private static void makes(String things, int hard, int... made) {
        NoonSquare x = Due.valley(A + things + Lines.person("x", "a", 0, 0, hard, "0"));
        for (int thing = 0; thing < x.about(2); thing++) {
            x.give(thing, 0);
        }
        for (int want : made) {
            due.is("made of " + things + " by hard " + hard, x.run(1), want);
        }
    }

    private static void makes() {
        due.quote("A DAY (numbered from 1): (a) USE: PERSON by PERSON, each of his THINGS by number: he MAKES"
            + " worth * LEFT * hard / 100 (cut);");
        makes(Lines.thing("s", "a", 1, 10, 1), 1, 1, 0, 0);
        makes(Lines.thing("s", "a", 1, 10, 1) + Lines.thing("t", "a", 1, 10, 1), 1, 2, 0);
        makes(Lines.thing("s", "a", 99, 0, 1), 9, 891, 891);
        makes(Lines.thing("s", "a", 0, 0, 1), 9, 0);
        makes(Lines.thing("s", "a", 99, 20, 1), 0, 0, 0);
        makes(Lines.thing("s", "a", 7, 10, 1), 3, 21, 7 * 97 * 3 / 100, 7 * 94 * 3 / 100);
        makes(Lines.thing("s", "a", 9, 20, 1), 9, 81, 66, 51, 37, 22, 8, 0, 0);
        NoonSquare x = Due.valley(A + Lines.thing("s", "a", 1, 0, 0) + Lines.person("x", "a", 0, 0, 0, "day"));
        due.is("the first day is 1", x.asks(0, 0), 1);
        x.run(1);
        due.is("the second is 2", x.asks(0, 0), 2);
        x = Due.valley(A + Lines.things(10, 3) + Lines.people(1, "0").replace("hard 0", "hard 1"));
        for (int thing = 0; thing < 10; thing++) {
            x.give(thing, 0);
        }
        due.is("each of ten things", x.run(1), 30);
        due.is("and then none is his", x.run(1), 0);
    }

    private static int leftBehind(int wear, int hard, int craft, int days) {
        NoonSquare x = Due.valley(A + Lines.thing("s", "a", 1, wear, 1) + Lines.person("x", "a", craft, 0, hard, "0"));
        x.give(0, 0);
        x.run(days);
        return x.thing(0, 1);
    }

    private static void wears() {
        due.quote("LEFT is less by wear * hard / 10 (cut; 0 at least);");
        due.is("1 * 9 / 10", leftBehind(1, 9, 0, 1), 100);
        due.is("1 * 9 / 10, on a hundred days", leftBehind(1, 9, 0, 100), 100);
        due.is("2 * 5 / 10", leftBehind(2, 5, 0, 1), 99);
        due.is("19 * 1 / 10", leftBehind(19, 1, 0, 1), 99);
        due.is("20 * 1 / 10", leftBehind(20, 1, 0, 1), 98);
        due.is("20 * 9 / 10", leftBehind(20, 9, 0, 1), 82);
        due.is("20 * 0 / 10", leftBehind(20, 0, 0, 9), 100);
        due.is("0 * 9 / 10", leftBehind(0, 9, 0, 9), 100);
        due.is("ten, ten times: just 0", leftBehind(20, 5, 0, 10), 0);
        due.is("eighteen, five times", leftBehind(20, 9, 0, 5), 10);
        due.is("eighteen of ten: 0", leftBehind(20, 9, 0, 6), 0);
        due.is("0 stays 0", leftBehind(20, 9, 0, 7), 0);
    }

    private static void eats() {
        due.quote("food is EATEN (if hard is not 0), nobody's then.");
        for (int hard = 0; hard <= 9; hard += hard == 0 ? 1 : 8) {
            NoonSquare x = Due.valley(A + Lines.food("f", "a", 10, 0, 1) + Lines.thing("s", "a", 10, 0, 1)
                + Lines.person("x", "a", 0, 0, hard, "0"));
            x.run(1);
            due.is("nobody eats what is nobody's", x.thing(0, 3), 0);
            x.give(0, 0);
            x.give(1, 0);
            due.is("both are used, hard " + hard, x.run(1), 20 * hard);
            due.is("eaten, hard " + hard, x.thing(0, 3), hard == 0 ? 0 : 1);
            due.is("whose, hard " + hard, x.thing(0, 0), hard == 0 ? 0 : -1);
            due.is("his things, hard " + hard, x.person(0, 2), hard == 0 ? 2 : 1);
            due.is("what is no food is not eaten", x.thing(1, 3), 0);
            due.is("what is eaten makes nothing", x.run(1), 10 * hard);
            due.is("eaten it stays", x.thing(0, 3), hard == 0 ? 0 : 1);
        }
    }

    private static void mends() {
        due.quote("(b) MEND: PERSON by PERSON, that of his THINGS whose LEFT is least (of like ones the first):"
            + " LEFT is more by craft, 100 at most.");
        due.is("90 and 9", leftBehind(20, 5, 9, 1), 99);
        due.is("91 and 9", leftBehind(18, 5, 9, 1), 100);
        due.is("92 and 9", leftBehind(16, 5, 9, 1), 100);
        due.is("90 and 0", leftBehind(20, 5, 0, 1), 90);
        due.is("100 and 9", leftBehind(0, 5, 9, 1), 100);
        due.is("what is used up is mended", leftBehind(20, 9, 9, 40), 9);
        NoonSquare x = Due.valley(A + Lines.thing("s", "a", 1, 0, 1) + Lines.thing("t", "a", 1, 20, 1)
            + Lines.thing("u", "a", 1, 20, 1) + Lines.thing("v", "a", 1, 20, 1) + Lines.person("x", "a", 5, 0, 5, "0")
            + Lines.person("y", "a", 3, 0, 5, "0") + Lines.person("z", "a", 9, 0, 5, "0"));
        for (int thing = 0; thing < 4; thing++) {
            x.give(thing, thing < 3 ? 0 : 1);
        }
        x.run(1);
        due.is("not the first that is whole", x.thing(0, 1), 100);
        due.is("of like ones the first", x.thing(1, 1), 95);
        due.is("not the second", x.thing(2, 1), 90);
        due.is("the other's by his own craft", x.thing(3, 1), 93);
        x.run(1);
        due.is("now it is the second that is least", x.thing(1, 1), 85);
        due.is("so it is mended", x.thing(2, 1), 85);
        x = Due.valley(A + Lines.thing("s", "a", 1, 20, 1) + Lines.thing("t", "a", 1, 2, 1) + Lines.person("x", "a", 9, 0, 5, "0"));
        x.give(0, 0);
        x.give(1, 0);
        x.run(1);
        due.is("the first is least", x.thing(0, 1), 99);
        due.is("the second is not", x.thing(1, 1), 99);
        x = Due.valley(A + Lines.food("f", "a", 1, 20, 1) + Lines.thing("t", "a", 1, 20, 1) + Lines.person("x", "a", 9, 0, 5, "0"));
        x.give(0, 0);
        x.give(1, 0);
        x.run(1);
        due.is("food that is eaten is not mended", x.thing(0, 1), 90);
        due.is("so the next one is", x.thing(1, 1), 99);
    }

    private static int next(int w) {
        return w * 1103515245 + 12345;
    }

    /** A w by which the next draw of n is so much. */
    private static int before(int n, int drawn) {
        int w = 0;
        while ((next(w) >>> 16) % n != drawn) {
            w++;
        }
        return w;
    }

    private static void lateBell() {
        due.quote("(c) If late is not 0: with DRAW of 100 below late the bell is LATE today.");
        for (int late : new int[] {1, 2, 50, 99, 100}) {
            NoonSquare x = Due.valley(A + "late " + late + ";");
            int w = before(100, late - 1);
            x.seed(w);
            x.run(1);
            due.is("late " + late + ", drawn " + (late - 1), x.about(10), 1);
            due.is("one draw", x.about(8), next(w));
            if (late < 100) {
                x.seed(before(100, late));
                x.run(1);
                due.is("late " + late + ", drawn " + late, x.about(10), 1);
                x.seed(before(100, 99));
                x.run(1);
                due.is("late " + late + ", drawn 99", x.about(10), 1);
            }
            x.seed(before(100, 0));
            x.run(1);
            due.is("late " + late + ", drawn 0", x.about(10), 2);
        }
        NoonSquare x = Due.valley(A + "late 0;");
        x.seed(before(100, 0));
        int w = x.about(8);
        x.run(1);
        due.is("late 0: not even if it would be 0", x.about(10), 0);
        due.is("late 0: no draw", x.about(8), w);
    }

    /** A thing so many minutes away from the one person, by two roads if it must be, at a place of that noon. */
    private static String away(int minutes, int noon) {
        String roads = minutes < 100 ? Lines.road("a", "b", minutes)
            : Lines.road("a", "m", 50) + Lines.road("m", "b", minutes - 50);
        return A + Lines.place("b", noon) + Lines.place("m", 0) + roads + Lines.thing("t", "b", 1, 0, 0)
            + Lines.person("x", "a", 0, 0, 0, "1");
    }

    private static void reaches(int minutes, int noon, boolean late, boolean does) {
        NoonSquare x = Due.valley(away(minutes, noon) + (late ? "late 100;" : ""));
        x.run(1);
        String call = minutes + " minutes to a noon of " + noon + (late ? ", late" : "");
        due.is(call, x.thing(0, 0), does ? 0 : -1);
        due.is(call + ": where he is", x.person(0, 0), does ? 1 : 0);
        due.is(call + ": the crowd", x.thing(0, 2), does ? 1 : 0);
    }

    private static NoonSquare choosing(String e) {
        return Due.valley(A + Lines.thing("s", "a", 0, 0, 0) + Lines.thing("t", "a", 1, 0, 0) + Lines.thing("u", "a", 5, 0, 0)
            + Lines.thing("v", "a", 5, 0, 0) + Lines.person("x", "a", 0, 0, 1, e));
    }

    private static void aims() {
        due.quote("(d) AIMS, of each PERSON from his PLACE, at minute 0: of THINGS that are not EATEN, and FAR is no more than"
            + " 60 + noon of its PLACE (10 more if LATE), that whose e is most, above 0; of like ones the first;"
            + " with none he stays.");
        reaches(60, 0, false, true);
        reaches(61, 0, false, false);
        reaches(70, 0, true, true);
        reaches(71, 0, true, false);
        reaches(119, 59, false, true);
        reaches(120, 59, false, false);
        reaches(129, 59, true, true);
        reaches(130, 59, true, false);
        due.is("the most, of like ones the first", choosing("worth").person(0, 3), 2);
        due.is("all alike", choosing("7").person(0, 3), 0);
        due.is("1 is above 0", choosing("worth=1").person(0, 3), 1);
        due.is("0 is not", choosing("0").person(0, 3), -1);
        due.is("nor what is below", choosing("worth-6").person(0, 3), -1);
        due.is("nor what wraps to below", choosing("9999*9999*30").person(0, 3), -1);
        due.is("one that is below, one that is 0", choosing("worth-5").person(0, 3), -1);
        due.is("the first is most", choosing("5-worth").person(0, 3), 0);
        NoonSquare x = Due.valley(A + Lines.food("f", "a", 9, 0, 0) + Lines.thing("s", "a", 1, 0, 0)
            + Lines.person("x", "a", 0, 0, 1, "worth"));
        due.is("food", x.person(0, 3), 0);
        x.give(0, 0);
        x.run(1);
        due.is("eaten ahead of the aims", x.thing(0, 2), 0);
        due.is("so he stood by the other", x.thing(1, 2), 1);
        due.is("and aims at it", x.person(0, 3), 1);
        x = Due.valley(A + Lines.person("x", "a", 0, 0, 1, "1"));
        due.is("no thing at all", x.person(0, 3), -1);
    }

    private static void walks() {
        due.quote("He walks there, and stands by it.");
        NoonSquare x = Due.valley(away(5, 0) + Lines.person("y", "b", 0, 0, 0, "1") + Lines.person("z", "a", 0, 0, 0, "0"));
        x.run(1);
        due.is("he is there", x.person(0, 0), 1);
        due.is("who was there stays there", x.person(1, 0), 1);
        due.is("who does not aim stays", x.person(2, 0), 0);
        due.is("two stand by it", x.thing(0, 2), 2);
        x.run(1);
        due.is("he is there still", x.person(0, 0), 1);
        due.is("now both walked nothing: the first", x.thing(0, 0), 0);
    }

    private static void noons() {
        due.quote("NOONS, PLACES by noon, of like ones by number; at each one THINGS that lie there, by number: of those who"
            + " stand by it those whose force is no less than heavy TAKE; CROWD is all who stand by it.");
        for (int seed = 0; seed < 16; seed++) {
            NoonSquare x = Due.valley("law lot;" + Lines.place("a", 9) + Lines.place("b", 3) + Lines.place("c", 3)
                + Lines.thing("r", "a", 1, 0, 0) + Lines.thing("s", "c", 2, 0, 0) + Lines.thing("t", "b", 3, 0, 0)
                + Lines.person("p", "a", 0, 0, 0, "1") + Lines.person("q", "a", 0, 0, 0, "1")
                + Lines.person("u", "b", 0, 0, 0, "1") + Lines.person("v", "b", 0, 0, 0, "1")
                + Lines.person("x", "c", 0, 0, 0, "1") + Lines.person("y", "c", 0, 0, 0, "1"));
            x.seed(seed);
            x.run(1);
            int first = next(seed);
            int second = next(first);
            int third = next(second);
            due.is("the earlier noon, the lesser place first", x.thing(2, 0), 2 + (first >>> 16) % 2);
            due.is("then the other place of that noon", x.thing(1, 0), 4 + (second >>> 16) % 2);
            due.is("then the later noon", x.thing(0, 0), (third >>> 16) % 2);
            x = Due.valley("law lot;" + A + Lines.things(2, 1) + Lines.thing("z", "a", 9, 0, 0)
                + Lines.people(3, "worth=9") + Lines.person("x", "a", 0, 0, 0, "worth=1")
                + Lines.person("y", "a", 0, 0, 0, "worth=1"));
            x.seed(seed);
            x.run(1);
            due.is("things by number: the first one", x.thing(0, 0), 3 + (first >>> 16) % 2);
            due.is("the last one", x.thing(2, 0), (second >>> 16) % 3);
        }
        takes(0, 0, true);
        takes(1, 0, false);
        takes(50, 50, true);
        takes(51, 50, false);
        takes(99, 99, true);
        takes(99, 98, false);
        NoonSquare x = Due.valley(A + Lines.thing("s", "a", 1, 0, 50) + Lines.people(5, "1")
            + Lines.person("x", "a", 0, 99, 0, "1"));
        x.run(1);
        due.is("who can take has it", x.thing(0, 0), 5);
        due.is("all who stand by it", x.thing(0, 2), 6);
    }

    private static void takes(int heavy, int force, boolean does) {
        NoonSquare x = Due.valley(A + Lines.thing("s", "a", 1, 0, heavy) + Lines.person("x", "a", 0, force, 0, "1"));
        x.run(1);
        due.is("heavy " + heavy + ", force " + force, x.thing(0, 0), does ? 0 : -1);
        due.is("the crowd of it", x.thing(0, 2), 1);
    }

    /** Who has a thing of the first person behind a day. */
    private static int keeper(int heavy, String e, int force) {
        NoonSquare x = Due.valley(A + Lines.thing("s", "a", 1, 0, heavy) + Lines.person("x", "a", 0, 0, 0, "0")
            + Lines.person("y", "a", 0, force, 0, e));
        x.give(0, 0);
        x.run(1);
        return x.thing(0, 0);
    }

    private static void noneTakes() {
        due.quote("If none stands by it, it is nobody's, if heavy is 0, else it stays whose it is;"
            + " if some do, but none TAKES, it stays whose it is;");
        due.is("none by it, heavy 0", keeper(0, "0", 99), -1);
        due.is("none by it, heavy 1", keeper(1, "0", 99), 0);
        due.is("none by it, heavy 99", keeper(99, "0", 99), 0);
        due.is("one by it who takes", keeper(1, "1", 1), 1);
        due.is("one by it who does not", keeper(1, "1", 0), 0);
        due.is("one by it, heavy 0: he takes", keeper(0, "1", 0), 1);
        NoonSquare x = Due.valley(A + Lines.thing("s", "a", 1, 0, 9) + Lines.person("x", "a", 0, 8, 0, "1"));
        x.run(1);
        due.is("nobody's stays nobody's", x.thing(0, 0), -1);
        due.is("though one stood by it", x.thing(0, 2), 1);
    }

    private static void laws() {
        due.quote("else by law it is his of those who TAKE: near: who walked least to it now; force: whose force is most"
            + " (of like ones, of both, the least number); lot: that of the DRAW of how many they are (drawn if more than one).");
        due.is("near: one minute less", walkers(5, 4), 1);
        due.is("near: of like ones the least number", walkers(5, 5), 0);
        due.is("near: one minute more", walkers(5, 6), 0);
        due.is("force: one less", strong(50, 49), 0);
        due.is("force: of like ones the least number", strong(50, 50), 0);
        due.is("force: one more", strong(50, 51), 1);
        due.is("force: the strongest of those who take", strong(29, 50), 1);
        for (int count = 1; count <= 6; count++) {
            for (int drawn = 0; drawn < count; drawn++) {
                NoonSquare x = Due.valley("law lot;" + A + Lines.things(1, 1) + Lines.people(count, "1"));
                int w = before(count, drawn);
                x.seed(w);
                x.run(1);
                due.is("lot of " + count + ", drawn " + drawn, x.thing(0, 0), drawn);
                due.is("w behind it", x.about(8), count > 1 ? next(w) : w);
            }
        }
        NoonSquare x = Due.valley("law lot;" + A + Lines.thing("s", "a", 1, 0, 9) + Lines.person("x", "a", 0, 8, 0, "1")
            + Lines.person("y", "a", 0, 9, 0, "1") + Lines.person("z", "a", 0, 8, 0, "1"));
        x.run(1);
        due.is("one of three takes", x.thing(0, 0), 1);
        due.is("so nothing is drawn", x.about(8), 1);
        walkedNow();
    }

    /** The one of two who has a thing, by near, who are so many minutes from it. */
    private static int walkers(int first, int second) {
        NoonSquare x = Due.valley(Lines.places(3, 0) + Lines.road("a", "c", first) + Lines.road("b", "c", second)
            + Lines.thing("t", "c", 1, 0, 0) + Lines.person("x", "a", 0, 0, 0, "1") + Lines.person("y", "b", 0, 9, 0, "1"));
        x.run(1);
        return x.thing(0, 0);
    }

    private static int strong(int first, int second) {
        NoonSquare x = Due.valley("law force;" + Lines.places(2, 0) + Lines.road("a", "b", 9) + Lines.thing("t", "b", 1, 0, 30)
            + Lines.person("x", "b", 0, first, 0, "1") + Lines.person("y", "a", 0, second, 0, "1")
            + Lines.person("z", "b", 0, 30, 0, "1"));
        x.run(1);
        return x.thing(0, 0);
    }

    /** What he walked ahead of an earlier noon does not count at a later one. */
    private static void walkedNow() {
        for (int other = 4; other <= 6; other++) {
            NoonSquare x = Due.valley(A + Lines.place("b", 10) + Lines.place("c", 0) + Lines.place("d", 0) + Lines.road("c", "a", 60)
                + Lines.road("a", "b", 5) + Lines.road("d", "b", other) + Lines.thing("s", "a", 9, 0, 0)
                + Lines.thing("t", "b", 5, 0, 0) + Lines.person("y", "d", 0, 0, 0, "worth=5")
                + Lines.person("x", "c", 0, 0, 0, "worth"));
            x.run(1);
            due.is("60 minutes, then 5, against " + other, x.thing(1, 0), other <= 5 ? 0 : 1);
        }
    }

    /** Whether one who stood at a place of the first noon goes on to another of the second. */
    private static void goesOn(int noon, int later, int minutes, boolean does) {
        for (String late : new String[] {"", "late 100;"}) {
            NoonSquare x = Due.valley(late + Lines.place("a", noon) + Lines.place("b", later) + Lines.road("a", "b", minutes)
                + Lines.thing("s", "a", 9, 0, 50) + Lines.thing("t", "b", 5, 0, 0) + Lines.person("x", "a", 0, 0, 0, "worth"));
            x.run(1);
            String call = "from " + noon + " to " + later + " in " + minutes + (late.isEmpty() ? "" : ", late");
            due.is(call + ": he stood by the first", x.thing(0, 2), 1);
            due.is(call + ": and by the second", x.thing(1, 2), does ? 1 : 0);
            due.is(call + ": where he is", x.person(0, 0), does ? 1 : 0);
            due.is(call + ": what he has", x.thing(1, 0), does ? 0 : -1);
        }
    }

    private static void aimsAnew() {
        due.quote("Behind all THINGS of a PLACE each who stood by one there AIMS anew, from there, of THINGS at PLACES of a later"
            + " noon, FAR no more than the later noon less this one; with none he stays.");
        goesOn(10, 20, 10, true);
        goesOn(10, 20, 11, false);
        goesOn(10, 11, 1, true);
        goesOn(10, 11, 2, false);
        goesOn(10, 10, 1, false);
        goesOn(10, 9, 1, false);
        goesOn(0, 59, 59, true);
        goesOn(0, 59, 60, false);
        StringBuilder text = new StringBuilder();
        for (int i = 0; i < 8; i++) {
            text.append(Lines.place(Lines.name(i), 7 - i));
            text.append(i == 0 ? "" : Lines.road(Lines.name(i - 1), Lines.name(i), 1));
            text.append(Lines.thing(Lines.name(i), Lines.name(i), 9, 0, 0));
        }
        NoonSquare x = Due.valley(text + Lines.person("x", "h", 0, 0, 1, "10-far") + Lines.person("y", "a", 0, 0, 1, "noon=7"));
        x.run(1);
        due.is("eight noons in a day: all but what the other was by", x.person(0, 2), 7);
        due.is("the last one he walked to", x.thing(0, 0), 1);
        due.is("its crowd", x.thing(0, 2), 2);
        x = Due.valley(Lines.place("a", 0) + Lines.place("b", 5) + Lines.road("a", "b", 5) + Lines.thing("s", "a", 1, 0, 9)
            + Lines.thing("t", "b", 1, 0, 0) + Lines.thing("u", "b", 1, 0, 0) + Lines.person("x", "a", 0, 0, 0, "5-far"));
        x.run(1);
        due.is("far 5 is no more above 0", x.person(0, 0), 0);
        x = Due.valley(Lines.place("a", 0) + Lines.place("b", 5) + Lines.road("a", "b", 5) + Lines.thing("s", "a", 1, 0, 9)
            + Lines.thing("t", "b", 1, 0, 0) + Lines.thing("u", "b", 1, 0, 0) + Lines.person("x", "a", 0, 0, 0, "6-far"));
        x.run(1);
        due.is("far 5 is above 0", x.person(0, 0), 1);
        due.is("of like ones the first", x.thing(1, 0), 0);
        due.is("not the second", x.thing(2, 2), 0);
    }

    private static int asked(String e) {
        return Due.valley(A + Lines.thing("s", "a", 5, 0, 0) + Lines.person("x", "a", 0, 0, 1, e)).asks(0, 0);
    }

    private static void ints() {
        due.quote("e: ints, wrapping; relations, and, or, not are 1 or 0, of what is not 0.");
        due.is("the most", asked("8192*8192*32-1"), Integer.MAX_VALUE);
        due.is("one more", asked("8192*8192*32-1+1"), Integer.MIN_VALUE);
        due.is("the least, less one", asked("0-8192*8192*32-1"), Integer.MAX_VALUE);
        due.is("a product that wraps", asked("9999*9999*9999"), 9999 * 9999 * 9999);
        due.is("a product that wraps to 0", asked("8192*8192*64"), 0);
        due.is("relations are of ints", asked("8192*8192*32<0"), 1);
        due.is("1 < 2", asked("1<2"), 1);
        due.is("2 < 2", asked("2<2"), 0);
        due.is("3 < 2", asked("3<2"), 0);
        due.is("1 > 2", asked("1>2"), 0);
        due.is("2 > 2", asked("2>2"), 0);
        due.is("3 > 2", asked("3>2"), 1);
        due.is("1 = 2", asked("1=2"), 0);
        due.is("2 = 2", asked("2=2"), 1);
        for (String a : new String[] {"0", "1", "7", "(0-1)"}) {
            boolean isA = !a.equals("0");
            due.is("not " + a, asked("not " + a), isA ? 0 : 1);
            for (String b : new String[] {"0", "1", "7", "(0-1)"}) {
                boolean isB = !b.equals("0");
                due.is(a + " and " + b, asked(a + " and " + b), isA && isB ? 1 : 0);
                due.is(a + " or " + b, asked(a + " or " + b), isA || isB ? 1 : 0);
            }
        }
        due.is("one unit is what it is", asked("7"), 7);
        due.is("so is ( e )", asked("(7)"), 7);
        due.is("but not not is 1", asked("not not 7"), 1);
    }

    private static void facts() {
        due.quote("worth, left, heavy, crowd: of the THING; far: to its PLACE; mine: 1 if it is his, held: 1 if it is anybody's,"
            + " as the NOONS of the DAY began (crowd and left, too); day: the DAY's number; craft, force: his own;"
            + " noon: of its PLACE.");
        fact("worth", 99, 0);
        fact("left", 100, 100);
        fact("heavy", 99, 0);
        fact("far", 99, 0);
        fact("mine", 0, 0);
        fact("held", 0, 0);
        fact("crowd", 0, 0);
        fact("day", 1, 1);
        fact("craft", 9, 9);
        fact("force", 98, 98);
        fact("noon", 59, 0);
        NoonSquare x = Due.valley(A + Lines.thing("s", "a", 5, 20, 1) + Lines.person("x", "a", 0, 1, 5, "(left=90)*mine*held")
            + Lines.person("y", "a", 0, 1, 1, "(held=1 and mine=0)*(crowd=0)*2"));
        x.give(0, 0);
        x.run(1);
        due.is("left behind use, and whose it was: both stood by it", x.thing(0, 2), 2);
        due.is("now there was a crowd", x.asks(1, 0), 0);
        x = Due.valley(A + Lines.thing("s", "a", 5, 20, 1) + Lines.person("x", "a", 4, 1, 5, "left=94"));
        x.give(0, 0);
        x.run(1);
        due.is("left behind mend", x.thing(0, 2), 1);
    }

    /** A fact of the thing far away and of the one here, for the first of two people. */
    private static void fact(String word, int away, int here) {
        NoonSquare x = Due.valley(A + Lines.place("b", 59) + Lines.road("a", "b", 99) + Lines.thing("s", "b", 99, 20, 99)
            + Lines.thing("t", "a", 0, 0, 0) + Lines.person("x", "a", 9, 98, 7, word) + Lines.person("y", "b", 2, 3, 4, word));
        due.is(word + " of the one", x.asks(0, 0), away);
        due.is(word + " of the other", x.asks(0, 1), here);
        x.give(0, 0);
        x.give(1, 1);
        due.is(word + ", his", x.asks(0, 0), word.equals("mine") || word.equals("held") ? 1 : away);
        due.is(word + ", another's", x.asks(0, 1), word.equals("held") ? 1 : here);
    }

    private static void draws() {
        due.quote("DRAW of n: w becomes w * 1103515245 + 12345 (wrapping; 1 at first); (w >>> 16) modulo n.");
        due.is("1 at first", new NoonSquare().about(8), 1);
        for (int seed : new int[] {0, 1, -1, Integer.MAX_VALUE, Integer.MIN_VALUE, 123456789}) {
            NoonSquare x = Due.valley("law lot;late 100;" + A + Lines.things(1, 1) + Lines.people(6, "1"));
            x.seed(seed);
            x.run(1);
            int bell = next(seed);
            int lot = next(bell);
            due.is("w behind the bell and a lot from " + seed, x.about(8), lot);
            due.is("the lot of six", x.thing(0, 0), (lot >>> 16) % 6);
        }
    }

    private static NoonSquare small() {
        return Due.valley(A + Lines.thing("s", "a", 1, 0, 0) + Lines.person("x", "a", 0, 0, 1, "1"));
    }

    private static void run() {
        due.quote("So many DAYS (0 .. 100): what all MADE in them;");
        NoonSquare x = small();
        due.is("run(0)", x.run(0), 0);
        due.is("no day", x.about(4), 0);
        due.is("run(1)", x.run(1), 0);
        due.is("one day", x.about(4), 1);
        due.is("run(100)", x.run(100), 100);
        due.is("101 days", x.about(4), 101);
        due.is("run(0) again", x.run(0), 0);
        due.is("in them, not in all", x.run(1), 1);
        x = Due.valley(A + Lines.thing("s", "a", 99, 0, 1) + Lines.thing("t", "a", 50, 0, 1)
            + Lines.person("x", "a", 0, 0, 9, "0") + Lines.person("y", "a", 0, 0, 2, "0"));
        x.give(0, 0);
        x.give(1, 1);
        due.is("what all made", x.run(100), 100 * (891 + 100));
        due.leaves("run(0)", State::lived, y -> y.run(0));
    }

    private static NoonSquare old(int lastDays) {
        NoonSquare x = small();
        for (int i = 0; i < 99; i++) {
            x.run(100);
        }
        x.run(lastDays);
        return x;
    }

    private static void runRefused() {
        due.quote("NONE, doing nothing, for another number, or if there would be more than 10,000.");
        for (int days : new int[] {-1, 101, Integer.MIN_VALUE, Integer.MAX_VALUE}) {
            due.refused("run(" + days + ")", State::lived, x -> x.run(days), -1);
        }
        due.is("9,999 days and one", old(99).run(1), 1);
        due.refused("9,999 days and two", () -> old(99), x -> x.run(2), -1);
        due.refused("10,000 days and one", () -> old(100), x -> x.run(1), -1);
        due.is("10,000 days and none", old(100).run(0), 0);
        NoonSquare x = old(100);
        x.run(100);
        due.is("10,000 days", x.about(4), 10000);
        due.is("made in all", x.person(0, 1), 9999);
    }

    private static void thing() {
        due.quote("Of a THING what 0: its OWNER (NONE), 1: LEFT, 2: CROWD, 3: 1 if it is EATEN, else 0, 4: its PLACE, 5: worth;");
        NoonSquare x = Due.valley(A + Lines.place("b", 0) + Lines.thing("s", "b", 7, 20, 0) + Lines.food("f", "a", 9, 10, 1)
            + Lines.person("x", "a", 0, 0, 1, "0") + Lines.person("y", "b", 0, 0, 1, "1"));
        wholeThing(x, 0, -1, 100, 0, 0, 1, 7);
        wholeThing(x, 1, -1, 100, 0, 0, 0, 9);
        x.give(1, 0);
        x.run(1);
        wholeThing(x, 0, 1, 100, 1, 0, 1, 7);
        wholeThing(x, 1, -1, 99, 0, 1, 0, 9);
        x.chip(0, 7);
        x.run(1);
        wholeThing(x, 0, 1, 98, 1, 0, 1, 0);
        x = Due.valley(A + Lines.things(10, 3));
        due.is("the tenth", x.thing(9, 5), 3);
    }

    private static void wholeThing(NoonSquare x, int thing, int... want) {
        for (int what = 0; what < want.length; what++) {
            due.is("thing(" + thing + ", " + what + ")", x.thing(thing, what), want[what]);
        }
    }

    private static void thingRefused() {
        due.quote("-2 if there is none such, or for another what.");
        NoonSquare x = Due.valley(A + Lines.things(2, 3));
        for (int what = -1; what <= 6; what++) {
            due.is("thing(-1, " + what + ")", x.thing(-1, what), -2);
            due.is("thing(2, " + what + ")", x.thing(2, what), -2);
        }
        due.is("thing(0, 6)", x.thing(0, 6), -2);
        for (int none : NO_WHAT) {
            due.is("thing(0, " + none + ")", x.thing(0, none), -2);
            due.is("thing(" + none + ", 0)", x.thing(none, 0), -2);
        }
        due.is("thing(10, 0) of ten", Due.valley(A + Lines.things(10, 3)).thing(10, 0), -2);
    }

    private static void person() {
        due.quote("Of a PERSON what 0: his PLACE, 1: what he MADE, 2: how many THINGS are his, 3: his AIM (the DAY that comes as it"
            + " stands now, USE, MEND left out, not LATE; NONE);");
        NoonSquare x = Due.valley(Lines.places(2, 0) + Lines.thing("s", "b", 7, 20, 1) + Lines.thing("t", "b", 7, 20, 1)
            + Lines.person("x", "b", 0, 0, 5, "0") + Lines.person("y", "a", 0, 0, 5, "1"));
        int[] first = {1, 0, 0, -1};
        for (int what = 0; what < 4; what++) {
            due.is("person(0, " + what + ")", x.person(0, what), first[what]);
        }
        x.give(0, 0);
        due.is("one is his", x.person(0, 2), 1);
        x.give(1, 0);
        due.is("two are his", x.person(0, 2), 2);
        x.run(1);
        due.is("what he made", x.person(0, 1), 70);
        due.is("no way: no aim", x.person(1, 3), -1);
        x.give(0, 1);
        due.is("one is his again", x.person(0, 2), 1);
        x = Due.valley(A + Lines.thing("s", "a", 7, 20, 1) + Lines.food("f", "a", 7, 0, 1)
            + Lines.person("x", "a", 9, 0, 5, "(left=100)*(1+heavy*(day=1))"));
        x.give(0, 0);
        x.give(1, 0);
        due.is("use is left out: it is whole, it is not eaten", x.person(0, 3), 0);
        x.chip(0, 1);
        x.run(1);
        due.is("mend is left out", x.person(0, 3), -1);
        x = Due.valley(A + Lines.things(10, 1) + Lines.person("x", "a", 0, 0, 5, "mine*2+held+crowd*9"));
        due.is("nothing is held", x.person(0, 3), -1);
        for (int thing = 9; thing >= 0; thing--) {
            x.give(thing, 0);
            due.is("his things", x.person(0, 2), 10 - thing);
            due.is("his aim by what is his now", x.person(0, 3), thing);
        }
        x.give(0, -1);
        due.is("his aim by what is not his now", x.person(0, 3), 1);
        x.run(1);
        due.is("his aim by the crowd of today", x.person(0, 3), 1);
        due.is("60 minutes", Due.valley(away(60, 0)).person(0, 3), 0);
        due.is("61 minutes", Due.valley(away(61, 0)).person(0, 3), -1);
        due.is("61 minutes, not late", Due.valley(away(61, 0) + "late 100;").person(0, 3), -1);
    }

    private static void personRefused() {
        due.quote("-2 if there is none such, or for another what.");
        NoonSquare x = Due.valley(A + Lines.things(3, 3) + Lines.people(2, "1"));
        for (int what = -1; what <= 4; what++) {
            due.is("person(-1, " + what + ")", x.person(-1, what), -2);
            due.is("person(2, " + what + ")", x.person(2, what), -2);
        }
        due.is("person(0, 4)", x.person(0, 4), -2);
        for (int none : NO_WHAT) {
            due.is("person(0, " + none + ")", x.person(0, none), -2);
            due.is("person(" + none + ", 0)", x.person(none, 0), -2);
        }
        due.is("person(5, 0) of six", Due.valley(A + Lines.people(6, "1")).person(5, 0), 0);
        due.is("person(6, 0) of six", Due.valley(A + Lines.people(6, "1")).person(6, 0), -2);
    }

    private static void far() {
        due.quote("FAR; NONE if one is none.");
        NoonSquare x = Due.valley(Lines.places(2, 0) + Lines.road("a", "b", 9));
        due.is("far(0, 1)", x.far(0, 1), 9);
        due.is("far(1, 1)", x.far(1, 1), 0);
        for (int none : new int[] {-1, 2, Integer.MIN_VALUE, Integer.MAX_VALUE}) {
            due.is("far(0, " + none + ")", x.far(0, none), -1);
            due.is("far(" + none + ", 0)", x.far(none, 0), -1);
            due.is("far(" + none + ", " + none + ")", x.far(none, none), -1);
        }
        x = Due.valley(Lines.places(8, 0));
        due.is("the last of eight", x.far(7, 0), 999);
        due.is("behind the last of eight", x.far(8, 0), -1);
    }

    private static void give() {
        due.quote("A THING is given to a PERSON (or to nobody): true;");
        NoonSquare x = Due.valley(A + Lines.things(10, 3) + Lines.people(6, "0"));
        due.yes("give(0, 0)", x.give(0, 0));
        due.is("his", x.thing(0, 0), 0);
        due.yes("to him whose it is", x.give(0, 0));
        due.yes("the last to the last", x.give(9, 5));
        due.is("his", x.thing(9, 0), 5);
        due.yes("to another", x.give(9, 4));
        due.is("the other's", x.thing(9, 0), 4);
        due.yes("to nobody", x.give(9, -1));
        due.is("nobody's", x.thing(9, 0), -1);
        due.yes("nobody's to nobody", x.give(9, -1));
        x = Due.valley(A + Lines.thing("s", "a", 1, 0, 99) + Lines.people(1, "0"));
        due.yes("however heavy it is", x.give(0, 0));
    }

    private static void giveRefused() {
        due.quote("false if it is EATEN, or one is none.");
        due.refused("give(1, 0), eaten", State::lived, x -> x.give(1, 0) ? 1 : 0, 0);
        due.refused("give(1, -1), eaten", State::lived, x -> x.give(1, -1) ? 1 : 0, 0);
        for (int none : new int[] {-2, 2, Integer.MIN_VALUE, Integer.MAX_VALUE}) {
            due.refused("give(0, " + none + ")", State::lived, x -> x.give(0, none) ? 1 : 0, 0);
            due.refused("give(" + none + ", 0)", State::lived, x -> x.give(none, 0) ? 1 : 0, 0);
        }
        due.refused("give(-1, 0)", State::lived, x -> x.give(-1, 0) ? 1 : 0, 0);
        due.refused("give(-1, -1)", State::lived, x -> x.give(-1, -1) ? 1 : 0, 0);
        NoonSquare x = State.lived();
        due.is("back(0)", x.back(0), 2);
        due.yes("not eaten then: give(1, 1)", x.give(1, 1));
    }

    private static void chip() {
        due.quote("Its worth is less by so much from now on (0 .. worth): what it is then;");
        NoonSquare x = Due.valley(A + Lines.thing("s", "a", 9, 0, 1) + Lines.thing("t", "a", 0, 0, 1)
            + Lines.person("x", "a", 0, 0, 1, "worth"));
        x.give(0, 0);
        due.is("by 0", x.chip(0, 0), 9);
        due.is("by 1", x.chip(0, 1), 8);
        due.is("from now on", x.run(1), 8);
        due.is("a rule has it so", x.asks(0, 0), 8);
        due.is("by all", x.chip(0, 8), 0);
        due.is("makes nothing", x.run(1), 0);
        due.is("0 by 0", x.chip(0, 0), 0);
        due.is("what was 0 by 0", x.chip(1, 0), 0);
        due.is("99 by 99", Due.valley(A + Lines.things(1, 99)).chip(0, 99), 0);
    }

    private static void chipRefused() {
        due.quote("NONE, doing nothing, if one can't be.");
        due.refused("chip(0, 44) of 43", State::lived, x -> x.chip(0, 44), -1);
        due.refused("chip(0, 50) of 50, 7 less by now", State::lived, x -> x.chip(0, 50), -1);
        due.refused("chip(0, -1)", State::lived, x -> x.chip(0, -1), -1);
        due.refused("chip(0, the most)", State::lived, x -> x.chip(0, Integer.MAX_VALUE), -1);
        due.refused("chip(0, the least)", State::lived, x -> x.chip(0, Integer.MIN_VALUE), -1);
        for (int none : new int[] {-1, 2, Integer.MIN_VALUE, Integer.MAX_VALUE}) {
            due.refused("chip(" + none + ", 0)", State::lived, x -> x.chip(none, 0), -1);
        }
        due.is("43 by 43", State.lived().chip(0, 43), 0);
    }

    private static void asks() {
        due.quote("What e of a PERSON comes to for a THING (an EATEN one, too), from where he is now, as all is now"
            + " (the next DAY's number);");
        NoonSquare x = Due.valley(A + Lines.place("b", 0) + Lines.road("a", "b", 9) + Lines.thing("s", "b", 5, 20, 0)
            + Lines.food("f", "a", 7, 20, 1) + Lines.person("x", "a", 0, 0, 5, "far*1000+day*100+crowd*10+mine")
            + Lines.person("y", "a", 0, 0, 5, "left+worth*1000"));
        due.is("at first", x.asks(0, 0), 9100);
        due.is("of the other", x.asks(0, 1), 100);
        x.give(0, 0);
        x.give(1, 0);
        due.is("his", x.asks(0, 0), 9101);
        due.is("use is still to come", x.asks(1, 0), 5100);
        x.run(1);
        due.is("an eaten one", x.asks(1, 1), 7090);
        due.is("from where he is now", x.asks(0, 1), 9200);
        due.is("the crowd as it is now", x.asks(0, 0), 221);
        x.chip(1, 7);
        due.is("an eaten one, chipped", x.asks(1, 1), 90);
        due.is("behind 10,000 days", old(100).asks(0, 0), 1);
    }

    private static void asksRefused() {
        due.quote("-1000000 if one is none (it may be that, too).");
        NoonSquare x = Due.valley(A + Lines.things(2, 3) + Lines.people(1, "0-1000*1000"));
        due.is("as an answer", x.asks(0, 0), -1000000);
        x = Due.valley(A + Lines.things(2, 3) + Lines.people(2, "5"));
        due.is("asks(1, 1)", x.asks(1, 1), 5);
        for (int none : new int[] {-1, 2, Integer.MIN_VALUE, Integer.MAX_VALUE}) {
            due.is("asks(" + none + ", 0)", x.asks(none, 0), -1000000);
            due.is("asks(0, " + none + ")", x.asks(0, none), -1000000);
            due.is("asks(" + none + ", " + none + ")", x.asks(none, none), -1000000);
        }
        due.is("no things", Due.valley(A + Lines.people(1, "5")).asks(0, 0), -1000000);
        due.is("no people", Due.valley(A + Lines.things(1, 5)).asks(0, 0), -1000000);
    }
}
