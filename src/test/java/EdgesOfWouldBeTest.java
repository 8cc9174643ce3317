import java.util.function.ToIntFunction;

/** The edges of what would be, promises 13 to 21: a test for each sentence of the document, which it quotes. */
public final class EdgesOfWouldBeTest {
    private static final Due due = new Due("EdgesOfWouldBeTest");
    private static final String A = Lines.place("a", 0);
    private static final int[] NONE_OF_TWO = {-1, 2, Integer.MIN_VALUE, Integer.MAX_VALUE};

    public static void main(String[] args) {
        leaves();
        odds();
        chance();
        chanceRefused();
        choices();
        pay();
        atRest();
        rows();
        spent();
        lost();
        rest();
        restRefused();
        stands();
        madeInDays();
        made();
        madeRefused();
        law();
        lawRefused();
        howHard();
        used();
        usedRefused();
        chips();
        keeps();
        lifted();
        lift();
        noonsOfATour();
        tour();
        due.end();
    }

    private static void leaves(String call, ToIntFunction<NoonSquare> asking) {
        due.leaves(call, State::lived, asking);
    }

    private static void leaves() {
        due.quote("WHAT WOULD BE is found on what there is now, and leaves it.");
        leaves("chance(0, 0, 0)", x -> x.chance(0, 0, 0));
        leaves("chance(0, -1, 1)", x -> x.chance(0, -1, 1));
        leaves("chance(2, 0, 0)", x -> x.chance(2, 0, 0));
        leaves("rest(0)", x -> x.rest(0));
        leaves("rest(3)", x -> x.rest(3));
        leaves("stands(0, 0)", x -> x.stands(0, 0));
        leaves("stands(-1, 0)", x -> x.stands(-1, 0));
        for (int by = 0; by <= 5; by++) {
            int law = by;
            leaves("made(40, " + by + ")", x -> x.made(40, law));
        }
        leaves("made(41, 0)", x -> x.made(41, 0));
        leaves("law(40)", x -> x.law(40));
        leaves("law(-1)", x -> x.law(-1));
        due.yes("the thing is somebody's", State.lived().thing(0, 0) != -1);
        leaves("used(0, 30, 99, 1)", x -> x.used(0, 30, 99, 1));
        leaves("used(1, 30, 99, 1), eaten", x -> x.used(1, 30, 99, 1));
        leaves("keeps(0)", x -> x.keeps(0));
        leaves("lift(0, 1)", x -> x.lift(0, 1));
        leaves("tour(0)", x -> x.tour(0));
    }

    private static void chance(String why, NoonSquare x, int person, int upper, int lower) {
        due.is(why + ": chance(0, " + person + ", 0)", x.chance(0, person, 0), upper);
        due.is(why + ": chance(0, " + person + ", 1)", x.chance(0, person, 1), lower);
    }

    /** The one thing is so far from the one person that only a late bell lets him be in time. */
    private static NoonSquare oftenLate(int late) {
        return Due.valley("late " + late + ";" + Lines.places(2, 0) + Lines.road("a", "b", 65) + Lines.thing("t", "b", 1, 0, 0)
            + Lines.person("x", "a", 0, 0, 0, "1"));
    }

    private static void odds() {
        due.quote("CHANCE of a THING and a PERSON (or nobody): the odds that it is his behind the NOONS of the DAY that comes"
            + " (USE and MEND ahead of them), LATE with late / 100, lots all alike: a fraction.");
        chance("never late", oftenLate(0), 0, 0, 1);
        chance("never late, nobody", oftenLate(0), -1, 1, 1);
        chance("late 1", oftenLate(1), 0, 1, 100);
        chance("late 1, nobody", oftenLate(1), -1, 99, 100);
        chance("late 99", oftenLate(99), 0, 99, 100);
        chance("always late", oftenLate(100), 0, 1, 1);
        chance("always late, nobody", oftenLate(100), -1, 0, 1);
        for (int count = 1; count <= 6; count++) {
            NoonSquare x = Due.valley("law lot;" + A + Lines.things(1, 1) + Lines.people(count, "1"));
            for (int person = 0; person < count; person++) {
                chance("a lot of " + count, x, person, 1, count);
            }
            chance("a lot of " + count + ", nobody", x, -1, 0, 1);
            x.seed(77);
            chance("whatever w is", x, 0, 1, count);
        }
        NoonSquare x = Due.valley("late 33;law lot;" + Lines.places(2, 0) + Lines.road("a", "b", 65) + Lines.things(1, 1)
            + Lines.people(5, "1") + Lines.person("x", "b", 0, 0, 0, "1"));
        chance("a lot of five, or of six", x, 0, 189, 1000);
        chance("one of the six", x, 5, 11, 200);
        x = Due.valley(A + Lines.thing("s", "a", 1, 20, 1) + Lines.person("x", "a", 0, 0, 5, "0")
            + Lines.person("y", "a", 0, 1, 0, "left=90"));
        chance("whole, of nobody", x, 1, 0, 1);
        x.give(0, 0);
        chance("behind use", x, 1, 1, 1);
        x = Due.valley(A + Lines.thing("s", "a", 1, 20, 1) + Lines.person("x", "a", 4, 0, 5, "0")
            + Lines.person("y", "a", 0, 1, 0, "left=94"));
        x.give(0, 0);
        chance("behind mend", x, 1, 1, 1);
        oddsOfOneLaw();
        oddsOfTwoBells();
    }

    /** No lots by near and by force, nor by lot where none takes; by worth, crowd and owner as they are now. */
    private static void oddsOfOneLaw() {
        for (String law : new String[] {"law near;", "law force;"}) {
            NoonSquare x = Due.valley(law + A + Lines.things(1, 5) + Lines.people(6, "worth=5"));
            chance(law, x, 0, 1, 1);
            chance(law, x, 1, 0, 1);
            chance(law, x, -1, 0, 1);
        }
        NoonSquare x = Due.valley("law lot;" + A + Lines.thing("s", "a", 5, 0, 9) + Lines.people(2, "1"));
        chance("none can take what is nobody's", x, -1, 1, 1);
        chance("none can take it, not the first", x, 0, 0, 1);
        x.give(0, 1);
        chance("none can take what is his", x, 1, 1, 1);
        chance("none can take it, nobody", x, -1, 0, 1);
        x = Due.valley(A + Lines.things(1, 5) + Lines.person("x", "a", 0, 0, 0, "day=1") + Lines.person("y", "a", 0, 0, 0, "crowd=1"));
        chance("no crowd yet", x, 1, 0, 1);
        x.run(1);
        chance("a crowd of one", x, 1, 1, 1);
    }

    /** By the bell in time he goes one way, by the late one the other; neither way is begun where the other ends. */
    private static void oddsOfTwoBells() {
        NoonSquare x = Due.valley("late 50;" + Lines.places(3, 0) + Lines.road("a", "b", 65) + Lines.road("a", "c", 10)
            + Lines.thing("t", "b", 9, 0, 0) + Lines.thing("s", "c", 5, 0, 0) + Lines.person("x", "a", 0, 0, 0, "worth"));
        chance("by the late bell", x, 0, 1, 2);
        due.is("by the other one", x.chance(1, 0, 1), 2);
    }

    private static void chance() {
        due.quote("CHANCE (PERSON NONE: nobody): upper part (0), lower part (1), in lowest terms;");
        chance("50 of 100", oftenLate(50), 0, 1, 2);
        chance("25 of 100", oftenLate(25), 0, 1, 4);
        chance("75 of 100", oftenLate(25), -1, 3, 4);
        chance("20 of 100", oftenLate(20), 0, 1, 5);
        chance("7 of 100", oftenLate(7), 0, 7, 100);
        chance("2 of 100", oftenLate(2), 0, 1, 50);
        chance("98 of 100", oftenLate(2), -1, 49, 50);
        chance("6 of 100", oftenLate(6), 0, 3, 50);
        chance("0 of 100", oftenLate(0), 0, 0, 1);
        chance("100 of 100", oftenLate(100), 0, 1, 1);
        NoonSquare x = Due.valley(A + Lines.thing("s", "a", 1, 0, 9) + Lines.person("x", "a", 0, 0, 0, "1"));
        chance("too heavy, nobody's", x, -1, 1, 1);
        x.give(0, 0);
        chance("too heavy, his", x, 0, 1, 1);
        chance("too heavy, his, nobody", x, -1, 0, 1);
    }

    private static NoonSquare withFood(int hard) {
        NoonSquare x = Due.valley(A + Lines.food("f", "a", 1, 0, 1) + Lines.person("x", "a", 0, 0, hard, "0")
            + Lines.person("y", "a", 0, 0, 1, "0"));
        x.give(0, 0);
        return x;
    }

    private static void chanceRefused() {
        due.quote("NONE if one can't be, or it is EATEN then.");
        NoonSquare x = Due.valley(A + Lines.things(2, 1) + Lines.people(2, "1"));
        due.is("chance(1, 1, 1)", x.chance(1, 1, 1), 1);
        for (int none : NONE_OF_TWO) {
            due.is("chance(" + none + ", 0, 0)", x.chance(none, 0, 0), -1);
            due.is("chance(0, 0, " + none + ")", x.chance(0, 0, none), -1);
        }
        due.is("chance(0, 2, 0)", x.chance(0, 2, 0), -1);
        due.is("chance(0, -2, 0)", x.chance(0, -2, 0), -1);
        due.is("chance(0, the most, 1)", x.chance(0, Integer.MAX_VALUE, 1), -1);
        due.is("chance(0, the least, 1)", x.chance(0, Integer.MIN_VALUE, 1), -1);
        chance("hard 0 does not eat", withFood(0), 0, 1, 1);
        chance("hard 1 eats", withFood(1), 0, -1, -1);
        chance("hard 1 eats, nobody", withFood(1), -1, -1, -1);
        x = withFood(1);
        x.give(0, -1);
        chance("nobody's is not eaten", x, -1, 1, 1);
        x.give(0, 0);
        x.run(1);
        chance("eaten already", x, -1, -1, -1);
    }

    /** A thing so many minutes from the one person, by two roads if it must be, at a place of that noon. */
    private static String away(int minutes, int noon) {
        String roads = minutes < 100 ? Lines.road("a", "b", minutes)
            : Lines.road("a", "m", 50) + Lines.road("m", "b", minutes - 50);
        return A + Lines.place("b", noon) + Lines.place("m", 0) + roads + Lines.thing("t", "b", 1, 0, 0)
            + Lines.person("x", "a", 0, 0, 0, "0") + "late 100;";
    }

    private static void choices() {
        due.quote("STANDINGS: each PERSON by one THING that is not EATEN and whose PLACE he reaches by its noon from where he is"
            + " (not LATE), or by none (last);");
        due.is("60 minutes", Due.valley(away(60, 0)).stands(0, 0), 0);
        due.is("61 minutes", Due.valley(away(61, 0)).stands(0, 0), -1);
        due.is("119 minutes to a noon of 59", Due.valley(away(119, 59)).stands(0, 0), 0);
        due.is("120 minutes to a noon of 59", Due.valley(away(120, 59)).stands(0, 0), -1);
        NoonSquare x = Due.valley(A + Lines.thing("s", "a", 0, 0, 0) + Lines.person("x", "a", 0, 0, 0, "0"));
        due.is("by it or by none", x.rest(0), 2);
        due.is("by it first", x.stands(0, 0), 0);
        due.is("by none last", x.stands(1, 0), -1);
        due.is("no thing: by none", Due.valley(A + Lines.people(1, "1")).stands(0, 0), -1);
        x = Due.valley(A + Lines.food("f", "a", 9, 0, 1) + Lines.thing("s", "a", 0, 0, 0) + Lines.person("x", "a", 0, 1, 1, "0"));
        due.is("by the food", x.stands(0, 0), 0);
        x.give(0, 0);
        due.is("not eaten yet", x.stands(0, 0), 0);
        x.run(1);
        due.is("eaten: by the other", x.stands(0, 0), 1);
        due.is("or by none", x.stands(1, 0), -1);
        x = Due.valley(Lines.places(2, 0) + Lines.road("a", "b", 50) + Lines.place("c", 0) + Lines.road("b", "c", 50)
            + Lines.thing("s", "b", 1, 0, 0) + Lines.thing("t", "c", 9, 0, 0) + Lines.person("x", "a", 0, 0, 0, "1"));
        due.is("from a he reaches b", x.stands(0, 0), 0);
        x.run(1);
        due.is("from b he reaches c", x.stands(0, 0), 1);
    }

    /** The most pay of all by a thing of that worth that has lost so much by days of use. */
    private static int payOf(int worth, int days) {
        NoonSquare x = Due.valley(A + Lines.thing("s", "a", worth, 10, 1) + Lines.person("x", "a", 0, 1, 1, "0"));
        x.give(0, 0);
        x.run(days);
        return x.rest(1);
    }

    private static void pay() {
        due.quote("PAY: of each THING, worth * LEFT / 100 (cut): to him to whom it would be by law;"
            + " by lot to each who TAKES its part (cut).");
        due.is("0 * 100 / 100", payOf(0, 0), 0);
        due.is("1 * 100 / 100", payOf(1, 0), 1);
        due.is("1 * 99 / 100", payOf(1, 1), 0);
        due.is("2 * 99 / 100", payOf(2, 1), 1);
        due.is("99 * 100 / 100", payOf(99, 0), 99);
        due.is("99 * 1 / 100", payOf(99, 99), 0);
        due.is("99 * 2 / 100", payOf(99, 98), 1);
        due.is("99 * 0 / 100", payOf(99, 100), 0);
        for (int count = 1; count <= 6; count++) {
            NoonSquare x = Due.valley("law lot;" + A + Lines.things(1, 98) + Lines.people(count, "1"));
            due.is("98 in " + count + " parts, cut", x.rest(1), 98 / count * count);
        }
        NoonSquare x = Due.valley("law lot;" + A + Lines.thing("s", "a", 98, 0, 5) + Lines.person("x", "a", 0, 4, 0, "0")
            + Lines.person("y", "a", 0, 5, 0, "0"));
        due.is("one of two takes: all to him", x.rest(1), 98);
        due.is("the other by it, or by none", x.rest(0), 2);
        x = Due.valley(Lines.places(2, 0) + Lines.road("a", "b", 1) + Lines.things(1, 50) + Lines.thing("z", "a", 49, 0, 0)
            + Lines.person("x", "b", 0, 9, 0, "0") + Lines.person("y", "a", 0, 0, 0, "0"));
        due.is("near: y by the first", x.stands(0, 1), 0);
        due.is("near: x by the second", x.stands(0, 0), 1);
        x = Due.valley("law force;" + Lines.places(2, 0) + Lines.road("a", "b", 1) + Lines.things(1, 50)
            + Lines.thing("z", "a", 49, 0, 0) + Lines.person("y", "a", 0, 8, 0, "0") + Lines.person("x", "b", 0, 9, 0, "0"));
        due.is("force: x by the first", x.stands(0, 1), 0);
        due.is("force: y by the second", x.stands(0, 0), 1);
        x = Due.valley("law force;" + A + Lines.things(1, 50) + Lines.thing("z", "a", 49, 0, 0) + Lines.people(2, "0"));
        due.is("like ones: the least number by the first", x.stands(0, 0), 0);
        due.is("the other by the second", x.stands(0, 1), 1);
    }

    private static void atRest() {
        due.quote("AT REST: nobody's PAY would be more by another choice of his alone.");
        due.is("two alike", Due.valley(A + Lines.things(2, 5) + Lines.people(1, "0")).rest(0), 2);
        NoonSquare x = Due.valley(A + Lines.things(1, 5) + Lines.thing("z", "a", 6, 0, 0) + Lines.people(1, "0"));
        due.is("one is more", x.rest(0), 1);
        due.is("that one", x.stands(0, 0), 1);
        x = Due.valley("law lot;" + A + Lines.things(1, 5) + Lines.people(6, "0"));
        due.is("5 in five parts, by six of them, or in six", x.rest(0), 7);
        due.is("the most pay", x.rest(1), 5);
        due.is("the least lost", x.rest(2), 4);
        x = Due.valley("law lot;" + A + Lines.things(1, 10) + Lines.thing("z", "a", 5, 0, 0) + Lines.people(2, "0"));
        due.is("half of 10 is as much as 5", x.rest(0), 3);
        due.is("both by the first", x.stands(0, 0) + x.stands(0, 1), 0);
        x = Due.valley("law lot;" + A + Lines.things(1, 10) + Lines.thing("z", "a", 6, 0, 0) + Lines.people(2, "0"));
        due.is("half of 10 is less than 6", x.rest(0), 2);
        due.is("it is not the others who would go, too", x.rest(1), 16);
    }

    private static void rows() {
        due.quote("Rows of choices (0 .. THINGS: that THING, THINGS: none) by number, the first PERSON's counted up last.");
        NoonSquare x = Due.valley(A + Lines.things(2, 0) + Lines.people(3, "0"));
        due.is("all rows", x.rest(0), 27);
        for (int row = 0; row < 27; row++) {
            int[] digits = {row / 9, row / 3 % 3, row % 3};
            for (int person = 0; person < 3; person++) {
                due.is("stands(" + row + ", " + person + ")", x.stands(row, person), digits[person] == 2 ? -1 : digits[person]);
            }
        }
        x = Due.valley(Lines.places(2, 0) + Lines.thing("s", "a", 0, 0, 0) + Lines.thing("t", "b", 0, 0, 0)
            + Lines.thing("u", "a", 0, 0, 0) + Lines.person("x", "b", 0, 0, 0, "0") + Lines.person("y", "a", 0, 0, 0, "0"));
        int[] first = {1, 1, 1, -1, -1, -1};
        int[] second = {0, 2, -1, 0, 2, -1};
        due.is("rows of what each reaches", x.rest(0), 6);
        for (int row = 0; row < 6; row++) {
            due.is("stands(" + row + ", 0)", x.stands(row, 0), first[row]);
            due.is("stands(" + row + ", 1)", x.stands(row, 1), second[row]);
        }
    }

    private static void spentIf(int things, int people, boolean is) {
        NoonSquare x = Due.valley(A + Lines.things(things, 1) + Lines.people(people, "0"));
        String call = things + " things, " + people + " people: ";
        for (int what = 0; what < 3; what++) {
            due.is(call + "rest(" + what + ")", x.rest(what) == -2 ? 1 : 0, is ? 1 : 0);
        }
        due.is(call + "stands(0, 0)", x.stands(0, 0) == -2 ? 1 : 0, is ? 1 : 0);
    }

    private static void spent() {
        due.quote("SPENT if (THINGS + 1) to the power of PEOPLE is more than 20,000.");
        spentIf(0, 0, false);
        spentIf(10, 0, false);
        spentIf(0, 6, false);
        spentIf(4, 6, false);
        spentIf(5, 6, true);
        spentIf(6, 5, false);
        spentIf(7, 5, true);
        spentIf(10, 4, false);
        spentIf(10, 5, true);
        spentIf(10, 6, true);
        NoonSquare x = Due.valley(Lines.places(2, 0) + Lines.things(9, 1) + Lines.food("z", "b", 1, 0, 0)
            + Lines.person("x", "b", 0, 0, 0, "0") + Lines.person("y", "b", 0, 0, 0, "0") + Lines.person("z", "b", 0, 0, 0, "0")
            + Lines.person("u", "b", 0, 0, 0, "0") + Lines.person("v", "b", 0, 0, 0, "0"));
        due.is("it is not asked what they reach", x.rest(0), -2);
    }

    private static void lost() {
        due.quote("LOST by crowds: how many stand by THINGS that are not theirs then (by lot all but one).");
        for (int count = 0; count <= 6; count++) {
            NoonSquare x = Due.valley("law lot;" + A + Lines.things(1, 99) + Lines.people(count, "0"));
            due.is("by lot, " + count + " by one", x.rest(2), Math.max(0, count - 1));
            x = Due.valley(A + Lines.things(1, 99) + Lines.people(count, "0"));
            due.is("near, " + count + ": the others by none", x.rest(2), 0);
        }
        NoonSquare x = Due.valley("law lot;" + A + Lines.things(2, 99) + Lines.people(5, "0"));
        due.is("five by two", x.rest(2), 3);
        x = Due.valley("law lot;" + A + Lines.things(4, 99) + Lines.people(5, "0"));
        due.is("five by four", x.rest(2), 1);
        x = Due.valley("law lot;" + A + Lines.things(6, 99) + Lines.people(5, "0"));
        due.is("five by six", x.rest(2), 0);
    }

    private static void rest() {
        due.quote("STANDINGS AT REST what 0: how many, 1: the most PAY of all together, 2: the least LOST;");
        NoonSquare x = Due.valley("law lot;" + A + Lines.things(1, 5) + Lines.people(6, "0"));
        due.is("how many", x.rest(0), 7);
        due.is("the most pay is not that of the first", x.rest(1), 5);
        due.is("the least lost is not that of the first", x.rest(2), 4);
        x = Due.valley(A + Lines.things(2, 0) + Lines.people(3, "0"));
        due.is("all rows", x.rest(0), 27);
        due.is("no pay", x.rest(1), 0);
        due.is("all by none", x.rest(2), 0);
        x = Due.valley(A + Lines.things(1, 9) + Lines.people(1, "0"));
        due.is("pay", x.rest(1), 9);
        x.chip(0, 5);
        due.is("pay of what it is worth now", x.rest(1), 4);
        x = Due.valley(A);
        due.is("no people: one row of no choices", x.rest(0), 1);
        due.is("no pay of no people", x.rest(1), 0);
        due.is("none lost of no people", x.rest(2), 0);
    }

    private static void restRefused() {
        due.quote("NONE if there is none (1, 2), or for another what; -2 if SPENT.");
        NoonSquare x = Due.valley(A + Lines.things(2, 1) + Lines.people(2, "0"));
        for (int what : new int[] {-1, 3, Integer.MIN_VALUE, Integer.MAX_VALUE}) {
            due.is("rest(" + what + ")", x.rest(what), -1);
        }
        x = Due.valley(A + Lines.things(7, 1) + Lines.people(5, "0"));
        for (int what = 0; what < 3; what++) {
            due.is("spent: rest(" + what + ")", x.rest(what), -2);
        }
    }

    private static void stands() {
        due.quote("Of the i-th STANDING AT REST the choice of a PERSON (the THING; NONE: none); -3 if there is none such;"
            + " -2 if SPENT.");
        NoonSquare x = Due.valley(A + Lines.things(1, 5) + Lines.people(2, "0"));
        due.is("how many", x.rest(0), 2);
        due.is("stands(0, 0)", x.stands(0, 0), 0);
        due.is("stands(0, 1)", x.stands(0, 1), 0);
        due.is("stands(1, 0)", x.stands(1, 0), 0);
        due.is("stands(1, 1)", x.stands(1, 1), -1);
        for (int none : NONE_OF_TWO) {
            due.is("stands(" + none + ", 0)", x.stands(none, 0), -3);
            due.is("stands(0, " + none + ")", x.stands(0, none), -3);
            due.is("stands(" + none + ", " + none + ")", x.stands(none, none), -3);
        }
        due.is("no people", Due.valley(A).stands(0, 0), -3);
        x = Due.valley(A + Lines.things(4, 0) + Lines.people(6, "0"));
        due.is("15,625 rows", x.rest(0), 15625);
        due.is("the last", x.stands(15624, 0), -1);
        due.is("behind the last", x.stands(15625, 0), -3);
        x = Due.valley(A + Lines.things(5, 0) + Lines.people(6, "0"));
        for (int any : new int[] {-1, 0, 1, 6, 46655, 46656, Integer.MIN_VALUE, Integer.MAX_VALUE}) {
            due.is("spent: stands(" + any + ", 0)", x.stands(any, 0), -2);
            due.is("spent: stands(0, " + any + ")", x.stands(0, any), -2);
            due.is("spent: stands(" + any + ", " + any + ")", x.stands(any, any), -2);
        }
    }

    /** By near it is x's, by force y's, who uses it harder; it wears by 1 for each 1 of hard. */
    private static NoonSquare rivals(String law) {
        return Due.valley(law + A + Lines.thing("s", "a", 50, 10, 0) + Lines.person("x", "a", 0, 10, 1, "1")
            + Lines.person("y", "a", 0, 20, 5, "1"));
    }

    private static void madeInDays() {
        due.quote("MADE in n days (0 .. 40): by all together, as it goes by its law, by another law, or KEPT: without NOONS,"
            + " each THING whose it is now.");
        NoonSquare x = rivals("");
        for (int by = 0; by <= 4; by++) {
            due.is("no day, by " + by, x.made(0, by), 0);
            due.is("one day of nobody's, by " + by, x.made(1, by), 0);
        }
        due.is("two days", x.made(2, 0), 50);
        due.is("forty days of 50, 49, .. by hard 1", x.made(40, 0), kept(1, 39));
        due.is("forty days by force", x.made(40, 2), kept(5, 39));
        x.give(0, 1);
        due.is("forty days kept", x.made(40, 4), kept(5, 40));
        due.is("one day kept", x.made(1, 4), 250);
        due.is("by near it is y's for one day alone", x.made(2, 1), 250 + 47);
        x = Due.valley(A + Lines.thing("s", "a", 50, 20, 0) + Lines.food("f", "a", 7, 0, 0) + Lines.person("x", "a", 9, 0, 5, "0")
            + Lines.person("y", "a", 0, 0, 1, "0"));
        x.give(0, 0);
        x.give(1, 1);
        due.is("with noons what nobody stands by is gone", x.made(3, 0), 250 + 7);
        due.is("without noons it stays, is mended; food is eaten once", x.made(3, 4), 250 + 7 + 247 + 245);
        x = State.lived();
        x.image(1);
        int made = x.made(40, 0);
        due.is("as it goes", x.run(40), made);
        due.is("back(1)", x.back(1), 3);
    }

    /** What 50 makes by that hard from 100 on, so many days. */
    private static int kept(int hard, int days) {
        int sum = 0;
        for (int day = 0, left = 100; day < days; day++, left = Math.max(0, left - hard)) {
            sum += 50 * left * hard / 100;
        }
        return sum;
    }

    private static void made() {
        due.quote("MADE in n days by 0: its law, 1: near, 2: force, 3: lot, 4: KEPT;");
        String[] laws = {"law near;", "law force;", "law lot;"};
        for (int law = 0; law < 3; law++) {
            NoonSquare x = rivals(laws[law]);
            due.is("near, in a valley of " + laws[law], x.made(3, 1), 99);
            due.is("force, in a valley of " + laws[law], x.made(3, 2), 487);
            due.is("kept, in a valley of " + laws[law], x.made(3, 4), 0);
            for (int seed = 0; seed < 8; seed++) {
                x.seed(seed);
                due.is("its law", x.made(9, 0), x.made(9, law + 1));
                int first = seed * 1103515245 + 12345;
                due.is("lot, in a valley of " + laws[law], x.made(2, 3), (first >>> 16) % 2 == 0 ? 50 : 250);
            }
        }
    }

    private static void madeRefused() {
        due.quote("NONE if one can't be.");
        NoonSquare x = rivals("");
        for (int none : new int[] {-1, 41, Integer.MIN_VALUE, Integer.MAX_VALUE}) {
            for (int by = 0; by <= 4; by++) {
                due.is("made(" + none + ", " + by + ")", x.made(none, by), -1);
            }
        }
        for (int none : new int[] {-1, 5, Integer.MIN_VALUE, Integer.MAX_VALUE}) {
            due.is("made(0, " + none + ")", x.made(0, none), -1);
            due.is("made(40, " + none + ")", x.made(40, none), -1);
        }
    }

    private static void law() {
        due.quote("The law (0 near, 1 force, 2 lot) by which most is MADE in n days, of like ones the first;");
        int drawsFirst = 0;
        int drawsSecond = 0;
        for (int seed = 0; seed < 16; seed++) {
            int drawn = (seed * 1103515245 + 12345 >>> 16) % 2;
            drawsFirst += 1 - drawn;
            drawsSecond += drawn;
            NoonSquare x = rivals("law lot;");
            x.seed(seed);
            due.is("no day: all alike", x.law(0), 0);
            due.is("one day of nobody's: all alike", x.law(1), 0);
            due.is("by force y, by lot the same or less", x.law(2), 1);
            x = Due.valley(A + Lines.things(1, 50) + Lines.person("x", "a", 0, 30, 1, "1") + Lines.person("y", "a", 0, 20, 5, "1"));
            x.seed(seed);
            due.is("x by near and by force, drawn " + drawn, x.law(2), drawn == 1 ? 2 : 0);
            x = Due.valley(A + Lines.things(1, 50) + Lines.person("x", "a", 0, 10, 5, "1") + Lines.person("y", "a", 0, 20, 1, "1"));
            x.seed(seed);
            due.is("by near x", x.law(2), 0);
        }
        due.yes("both are drawn", drawsFirst > 0 && drawsSecond > 0);
        due.yes("forty days", rivals("").law(40) >= 0);
    }

    private static void lawRefused() {
        due.quote("NONE if one can't be.");
        NoonSquare x = rivals("");
        for (int none : new int[] {-1, 41, Integer.MIN_VALUE, Integer.MAX_VALUE}) {
            due.is("law(" + none + ")", x.law(none), -1);
        }
    }

    /** The most that comes, in thousandths, as the document has it, by trying all. */
    private static long most(int[] thing, int left, int n, int c, int[] firstHard) {
        if (n == 0) {
            return 0;
        }
        long most = -1;
        for (int hard = 0; hard <= 9; hard++) {
            long behind = most(thing, Math.max(0, left - thing[1] * hard / 10), n - 1, c, new int[1]);
            boolean eaten = thing[2] == 1 && hard > 0;
            long comes = (long) thing[0] * left * hard * 10 + (eaten ? 0 : c * behind / 100);
            if (comes > most) {
                most = comes;
                firstHard[0] = hard;
            }
        }
        return most;
    }

    private static void howHard() {
        due.quote("USED: for a THING of n days (1 .. 30), and c hundredths that it is his the next day, too: the least HARD (0 .. 9)"
            + " on the first day by which most comes, in thousandths: worth * LEFT * HARD * 10 and c * (most of the days behind it,"
            + " LEFT less by wear * HARD / 10, cut, 0 at least; of food, by HARD above 0, 0) / 100 (cut); of no days 0.");
        int[][] things = {{99, 0, 0}, {99, 20, 0}, {7, 13, 0}, {0, 20, 0}, {50, 20, 1}, {1, 0, 1}, {1, 1, 0}};
        for (int[] thing : things) {
            String line = thing[2] == 1 ? Lines.food("s", "a", thing[0], thing[1], 1) : Lines.thing("s", "a", thing[0], thing[1], 1);
            for (int c : new int[] {0, 1, 33, 50, 99, 100}) {
                for (int n = 1; n <= 4; n++) {
                    NoonSquare x = Due.valley(A + line + Lines.person("x", "a", 0, 0, 9, "0"));
                    int[] hard = new int[1];
                    String call = line + " of " + n + " days, c " + c;
                    due.is(call + ": what comes", x.used(0, n, c, 1), most(thing, 100, n, c, hard));
                    due.is(call + ": hard", x.used(0, n, c, 0), hard[0]);
                }
            }
        }
        NoonSquare x = Due.valley(A + Lines.thing("s", "a", 1, 10, 1) + Lines.person("x", "a", 0, 0, 1, "0"));
        x.give(0, 0);
        x.run(2);
        due.is("98 * 90 and 89 * 90 / 100, cut", x.used(0, 2, 1, 1), 98 * 90 + 80);
        x = Due.valley(A + Lines.thing("s", "a", 9, 20, 1) + Lines.person("x", "a", 0, 0, 9, "0"));
        x.give(0, 0);
        x.run(5);
        due.is("10 left, two days: nine and nothing, or less", x.used(0, 2, 100, 1), most(new int[] {9, 20, 0}, 10, 2, 100, new int[1]));
        x.run(1);
        due.is("nothing left: hard", x.used(0, 30, 100, 0), 0);
        due.is("nothing left: what comes", x.used(0, 30, 100, 1), 0);
    }

    private static void used() {
        due.quote("USED what 0: HARD, 1: what comes, in thousandths;");
        NoonSquare x = Due.valley(A + Lines.thing("s", "a", 99, 0, 0) + Lines.food("f", "a", 10, 0, 0));
        due.is("one day, hard", x.used(0, 1, 0, 0), 9);
        due.is("one day", x.used(0, 1, 0, 1), 891000);
        due.is("one day, c 100: none is behind it", x.used(0, 1, 100, 1), 891000);
        due.is("thirty days, hard", x.used(0, 30, 100, 0), 9);
        due.is("thirty days", x.used(0, 30, 100, 1), 26730000);
        due.is("thirty days, c 0", x.used(0, 30, 0, 1), 891000);
        x.chip(1, 10);
        due.is("worth nothing: hard, whatever was asked before", x.used(1, 30, 100, 0), 0);
        due.is("worth nothing: what comes", x.used(1, 30, 100, 1), 0);
        x = Due.valley(A + Lines.thing("s", "a", 99, 0, 0) + Lines.food("f", "a", 10, 0, 0));
        due.is("food, sure of the next day: as good then, so 0", x.used(1, 2, 100, 0), 0);
        due.is("food, sure of the next day", x.used(1, 2, 100, 1), 90000);
        due.is("food, not so sure", x.used(1, 2, 99, 0), 9);
        due.is("food, not so sure: what comes", x.used(1, 2, 99, 1), 90000);
    }

    private static void usedRefused() {
        due.quote("NONE if one can't be (c 0 .. 100), or it is EATEN.");
        NoonSquare x = Due.valley(A + Lines.things(2, 5));
        due.is("used(1, 30, 100, 1)", x.used(1, 30, 100, 0), 9);
        for (int none : NONE_OF_TWO) {
            due.is("used(" + none + ", 1, 0, 0)", x.used(none, 1, 0, 0), -1);
            due.is("used(0, 1, 0, " + none + ")", x.used(0, 1, 0, none), -1);
        }
        for (int none : new int[] {-1, 0, 31, Integer.MIN_VALUE, Integer.MAX_VALUE}) {
            due.is("used(0, " + none + ", 0, 0)", x.used(0, none, 0, 0), -1);
        }
        for (int none : new int[] {-1, 101, Integer.MIN_VALUE, Integer.MAX_VALUE}) {
            due.is("used(0, 1, " + none + ", 0)", x.used(0, 1, none, 0), -1);
        }
        x = withFood(1);
        due.is("not eaten yet", x.used(0, 1, 0, 0), 9);
        x.run(1);
        due.is("eaten: hard", x.used(0, 1, 0, 0), -1);
        due.is("eaten: what comes", x.used(0, 1, 0, 1), -1);
    }

    /** A thing of y, which x takes while its worth is above so much. */
    private static NoonSquare wanted(int worth, int above) {
        NoonSquare x = Due.valley(A + Lines.thing("s", "a", worth, 0, 0) + Lines.person("x", "a", 0, 0, 1, "worth-" + above)
            + Lines.person("y", "a", 0, 0, 1, "1"));
        x.give(0, 1);
        return x;
    }

    private static void chips() {
        due.quote("CHIP of a THING: the least c (0 .. worth) so that, with worth less by c, CHANCE of its OWNER is 1.");
        for (int above = 0; above <= 10; above++) {
            due.is("worth 9, wanted above " + above, wanted(9, above).keeps(0), Math.max(0, 9 - above));
        }
        due.is("worth 99, all of it", wanted(99, 0).keeps(0), 99);
        due.is("worth 0, nothing of it", wanted(0, 0).keeps(0), 0);
        NoonSquare x = Due.valley("late 1;law force;" + Lines.places(2, 0) + Lines.road("a", "b", 65) + Lines.thing("s", "b", 9, 0, 0)
            + Lines.person("x", "a", 0, 9, 1, "worth-4") + Lines.person("y", "b", 0, 0, 1, "1"));
        x.give(0, 1);
        due.is("99 of 100 are not 1", x.keeps(0), 5);
        x = Due.valley("law lot;" + A + Lines.thing("s", "a", 9, 0, 0) + Lines.person("x", "a", 0, 9, 1, "worth-4")
            + Lines.person("y", "a", 0, 0, 1, "1"));
        x.give(0, 1);
        due.is("a lot of two is not 1", x.keeps(0), 5);
        x.chip(0, 3);
        due.is("of what it is worth now", x.keeps(0), 2);
    }

    private static void keeps() {
        due.quote("CHIP; NONE if none is enough, it is nobody's, or there is none such.");
        NoonSquare x = Due.valley(A + Lines.things(2, 9) + Lines.person("x", "a", 0, 0, 1, "worth+1") + Lines.person("y", "a", 0, 0, 1, "0"));
        x.give(0, 1);
        due.is("none is enough", x.keeps(0), -1);
        due.is("nobody's", x.keeps(1), -1);
        x.give(0, -1);
        due.is("nobody's again", x.keeps(0), -1);
        x.give(0, 0);
        due.is("nothing is enough", x.keeps(0), 0);
        for (int none : NONE_OF_TWO) {
            due.is("keeps(" + none + ")", x.keeps(none), -1);
        }
        due.is("food that he eats", withFood(1).keeps(0), -1);
        due.is("food that he does not", withFood(0).keeps(0), 0);
        x = withFood(1);
        x.run(1);
        due.is("eaten", x.keeps(0), -1);
    }

    private static int liftedBy(int heavy, int first, int second) {
        return Due.valley(A + Lines.thing("s", "a", 1, 0, heavy) + Lines.person("x", "a", 0, first, 0, "0")
            + Lines.person("y", "a", 0, second, 0, "0")).lift(0, 1);
    }

    private static void lifted() {
        due.quote("LIFTED by two: THINGS (as bits) whose heavy is above the force of each, but not above both together.");
        due.is("30 by 30 and 20", liftedBy(30, 30, 20), 0);
        due.is("31 by 30 and 20", liftedBy(31, 30, 20), 1);
        due.is("30 by 20 and 30", liftedBy(30, 20, 30), 0);
        due.is("31 by 20 and 30", liftedBy(31, 20, 30), 1);
        due.is("50 by 30 and 20", liftedBy(50, 30, 20), 1);
        due.is("51 by 30 and 20", liftedBy(51, 30, 20), 0);
        due.is("0 by 0 and 0", liftedBy(0, 0, 0), 0);
        due.is("1 by 0 and 0", liftedBy(1, 0, 0), 0);
        due.is("1 by 0 and 1", liftedBy(1, 0, 1), 0);
        due.is("99 by 98 and 1", liftedBy(99, 98, 1), 1);
        due.is("99 by 98 and 98", liftedBy(99, 98, 98), 1);
        due.is("99 by 99 and 98", liftedBy(99, 99, 98), 0);
        StringBuilder text = new StringBuilder(A);
        for (int i = 0; i < 10; i++) {
            text.append(Lines.thing(Lines.name(i), "a", 1, 0, 10 + i));
        }
        NoonSquare x = Due.valley(text + Lines.person("x", "a", 0, 14, 0, "0") + Lines.person("y", "a", 0, 9, 0, "0")
            + Lines.person("z", "a", 0, 9, 0, "0"));
        due.is("the last five of ten", x.lift(0, 1), 0x3e0);
        due.is("the first nine of ten", x.lift(1, 2), 0x1ff);
        due.is("no things", Due.valley(A + Lines.people(2, "0")).lift(0, 1), 0);
        due.is("25 by 20 and 30", liftedBy(25, 20, 30), 0);
        due.is("25 by 30 and 20", liftedBy(25, 30, 20), 0);
    }

    private static void lift() {
        due.quote("LIFTED; NONE if one is none (both one, too).");
        NoonSquare x = Due.valley(A + Lines.thing("s", "a", 1, 0, 9) + Lines.person("x", "a", 0, 5, 0, "0")
            + Lines.person("y", "a", 0, 5, 0, "0"));
        due.is("lift(0, 1)", x.lift(0, 1), 1);
        due.is("lift(1, 0)", x.lift(1, 0), 1);
        due.is("lift(0, 0)", x.lift(0, 0), -1);
        due.is("lift(1, 1)", x.lift(1, 1), -1);
        for (int none : NONE_OF_TWO) {
            due.is("lift(0, " + none + ")", x.lift(0, none), -1);
            due.is("lift(" + none + ", 0)", x.lift(none, 0), -1);
            due.is("lift(" + none + ", " + none + ")", x.lift(none, none), -1);
        }
    }

    private static int twoNoons(int noon, int later, int minutes) {
        return Due.valley("late 100;" + Lines.place("a", noon) + Lines.place("b", later) + Lines.road("a", "b", minutes)
            + Lines.thing("s", "a", 1, 0, 99) + Lines.thing("t", "b", 1, 0, 99) + Lines.person("x", "a", 0, 0, 0, "0")).tour(0);
    }

    private static void noonsOfATour() {
        due.quote("TOUR of a PERSON: the most NOONS of PLACES that have a THING (not EATEN) at which he can stand in one DAY,"
            + " one behind the other (unlike PLACES; not LATE).");
        due.is("60 minutes", Due.valley(away(60, 0)).tour(0), 1);
        due.is("61 minutes", Due.valley(away(61, 0)).tour(0), 0);
        due.is("119 minutes to a noon of 59", Due.valley(away(119, 59)).tour(0), 1);
        due.is("120 minutes to a noon of 59", Due.valley(away(120, 59)).tour(0), 0);
        due.is("from 10 to 20 in 10", twoNoons(10, 20, 10), 2);
        due.is("from 10 to 20 in 11", twoNoons(10, 20, 11), 1);
        due.is("from 10 to 20 in 5", twoNoons(10, 20, 5), 2);
        due.is("from 10 to 11 in 1", twoNoons(10, 11, 1), 2);
        due.is("from 10 to 10 in 1", twoNoons(10, 10, 1), 1);
        due.is("from 10 to 9 in 1: the other one first", twoNoons(10, 9, 1), 2);
        due.is("from 0 to 59 in 59", twoNoons(0, 59, 59), 2);
        due.is("from 0 to 59 in 60", twoNoons(0, 59, 60), 1);
        due.is("no thing", Due.valley(A + Lines.people(1, "0")).tour(0), 0);
        due.is("too late for the first, so for the second", Due.valley(A + Lines.place("p", 5) + Lines.place("q", 10)
            + Lines.road("a", "p", 70) + Lines.road("p", "q", 5) + Lines.thing("s", "p", 1, 0, 0) + Lines.thing("t", "q", 1, 0, 0)
            + Lines.people(1, "0")).tour(0), 0);
        due.is("ten things of one place", Due.valley(A + Lines.things(10, 0) + Lines.people(1, "0")).tour(0), 1);
        StringBuilder text = new StringBuilder();
        for (int i = 0; i < 8; i++) {
            text.append(Lines.place(Lines.name(i), 8 * (7 - i)));
            text.append(i == 0 ? "" : Lines.road(Lines.name(i - 1), Lines.name(i), 8));
        }
        String all = text.toString();
        StringBuilder things = new StringBuilder();
        for (int i = 0; i < 8; i++) {
            things.append(Lines.thing(Lines.name(i), Lines.name(i), 1, 0, 0));
            due.is("things at " + (i + 1) + " places", Due.valley(all + things + Lines.person("x", "e", 0, 0, 0, "0")).tour(0), i + 1);
        }
        NoonSquare x = Due.valley(A + Lines.place("p", 5) + Lines.place("q", 6) + Lines.place("r", 7) + Lines.road("a", "p", 1)
            + Lines.road("a", "q", 1) + Lines.road("q", "r", 1) + Lines.thing("s", "p", 1, 0, 0) + Lines.thing("t", "q", 1, 0, 0)
            + Lines.food("u", "r", 1, 0, 0) + Lines.person("x", "a", 0, 0, 1, "0"));
        due.is("the first noon is left out for two others", x.tour(0), 2);
        x.give(2, 0);
        x.run(1);
        due.is("the food is eaten", x.tour(0), 1);
    }

    private static void tour() {
        due.quote("TOUR; NONE if there is no such PERSON.");
        NoonSquare x = Due.valley(A + Lines.things(2, 1) + Lines.people(2, "0"));
        due.is("tour(0)", x.tour(0), 1);
        due.is("tour(1)", x.tour(1), 1);
        x = Due.valley(Lines.places(2, 0) + Lines.things(1, 1) + Lines.people(1, "0") + Lines.person("z", "b", 0, 0, 0, "0"));
        due.is("one who reaches a noon", x.tour(0), 1);
        due.is("then one who reaches none", x.tour(1), 0);
        x = Due.valley(A + Lines.things(2, 1) + Lines.people(2, "0"));
        for (int none : NONE_OF_TWO) {
            due.is("tour(" + none + ")", x.tour(none), -1);
        }
    }
}
