/** The edges of promises 22 to 30: a test for each sentence of the document, which it quotes. */
public final class EdgesOfTalesTest {
    private static final Due due = new Due("EdgesOfTalesTest");
    private static final String A = Lines.place("a", 0);
    private static final int[] NONE_OF_TWO = {-1, 2, Integer.MIN_VALUE, Integer.MAX_VALUE};

    public static void main(String[] args) {
        nobody();
        manyCalls();
        keptOwners();
        daysOneBehindTheOther();
        since();
        fortyTales();
        tale();
        taleRefused();
        untell();
        untellRefused();
        later();
        laterRefused();
        known();
        falseAndOpen();
        doubles();
        judge();
        judgeRefused();
        seed();
        image();
        imageRefused();
        back();
        backRefused();
        about();
        aboutRefused();
        due.end();
    }

    /** Two heavy things, which stay whose they are, and two people. */
    private static NoonSquare still() {
        return Due.valley(A + Lines.thing("s", "a", 1, 0, 9) + Lines.thing("t", "a", 1, 0, 9) + Lines.people(2, "0"));
    }

    private static void nobody() {
        due.quote("The constants: `NONE = -1`: There is none; nobody.");
        due.is("NONE", NoonSquare.NONE, -1);
        NoonSquare x = still();
        due.is("nobody's", x.thing(0, 0), NoonSquare.NONE);
        due.yes("to nobody", x.give(0, NoonSquare.NONE));
        due.is("odds of nobody", x.chance(0, NoonSquare.NONE, 0), 1);
        due.is("a tale of nobody", x.tale(1, 0, NoonSquare.NONE), 0);
        due.is("there is none", x.back(0), NoonSquare.NONE);
    }

    private static void manyCalls() {
        due.quote("An object is used for at most 512 calls after it has been made; what later calls answer is free.");
        NoonSquare x = new NoonSquare();
        for (int call = 1; call <= 512; call++) {
            if (call % 100 == 0) {
                due.is("call " + call, x.run(100), 0);
            } else {
                due.is("call " + call, x.about(4), call / 100 * 100);
            }
        }
    }

    private static void keptOwners() {
        due.quote("The OWNERS behind the first 60 DAYS are kept.");
        NoonSquare x = still();
        for (int day = 1; day <= 62; day++) {
            x.give(0, day % 2);
            x.run(1);
        }
        for (int day = 1; day <= 20; day++) {
            x.tale(day * 3, 0, day * 3 % 2);
            x.tale(day * 3 - 1, 0, (day * 3 - 1) % 2);
        }
        due.is("tales", x.about(5), 40);
        due.is("all of them so", x.judge(0, 0), 0);
        due.is("none open", x.judge(1, 0), 0);
        x = still();
        x.give(0, 0);
        x.run(59);
        x.give(0, 1);
        x.run(1);
        x.give(0, -1);
        x.run(1);
        x.tale(1, 0, 0);
        x.tale(59, 0, 0);
        x.tale(60, 0, 1);
        due.is("the first, the 59th, the 60th day", x.judge(0, 0), 0);
        x.tale(1, 0, 1);
        x.tale(59, 0, 1);
        x.tale(60, 0, 0);
        x.tale(60, 0, -1);
        due.is("otherwise it was not", x.judge(0, 0), 4);
        due.is("the first such tale", x.judge(2, 0), 3);
    }

    private static void daysOneBehindTheOther() {
        due.quote("SINCE of a THING: the first of the DAYS, one behind the other up to the latest, behind which its OWNER had it.");
        NoonSquare x = still();
        x.give(0, 0);
        x.run(1);
        due.is("one day", x.since(0), 1);
        x.run(1);
        due.is("two days", x.since(0), 1);
        x.give(0, 1);
        x.run(1);
        due.is("another's since day 3", x.since(0), 3);
        x.give(0, 0);
        x.run(1);
        due.is("his again: not since day 1", x.since(0), 4);
        x.give(0, -1);
        x.run(1);
        x.give(0, 0);
        x.run(1);
        due.is("nobody's for a day: not since day 4", x.since(0), 6);
        x.give(0, 1);
        x.give(0, 0);
        x.run(1);
        due.is("given away and back on one day: since day 6", x.since(0), 6);
        x.give(1, 1);
        x.run(1);
        due.is("the other thing", x.since(1), 8);
        due.is("the one", x.since(0), 6);
    }

    private static void since() {
        due.quote("SINCE; NONE if it is nobody's, there is none such, no DAY has been, its OWNER is another one than behind the latest"
            + " DAY, or there were more than 60 DAYS.");
        NoonSquare x = still();
        x.give(0, 0);
        due.is("no day has been", x.since(0), -1);
        x.run(1);
        due.is("one day", x.since(0), 1);
        due.is("nobody's", x.since(1), -1);
        for (int none : NONE_OF_TWO) {
            due.is("since(" + none + ")", x.since(none), -1);
        }
        x.give(0, 1);
        due.is("another one than behind the latest day", x.since(0), -1);
        x.give(0, -1);
        due.is("nobody's now", x.since(0), -1);
        x.give(1, 1);
        due.is("nobody's behind the latest day", x.since(1), -1);
        x.give(0, 0);
        due.is("his again, as behind the latest day", x.since(0), 1);
        x.run(59);
        due.is("60 days", x.since(0), 1);
        due.is("60 days, the other", x.since(1), 2);
        x.image(0);
        x.run(1);
        due.is("61 days", x.since(0), -1);
        x.run(100);
        due.is("161 days", x.since(0), -1);
        x.back(0);
        due.is("60 days again", x.since(0), 1);
    }

    private static void fortyTales() {
        due.quote("TALES, 40 at most, are TOLD at a TIME (0 at first, goes on), UNTOLD at a later one or the same: behind a DAY"
            + " (1 .. 60) a THING was a PERSON's (or nobody's).");
        NoonSquare x = still();
        due.is("the time at first", x.about(6), 0);
        for (int i = 0; i < 40; i++) {
            due.is("tales so far", x.about(5), i);
            due.is("a tale", x.tale(1 + i % 60, i % 2, i % 3 - 1), i);
        }
        due.is("forty", x.about(5), 40);
        due.is("one more", x.tale(1, 0, 0), -1);
        due.yes("untold at the same time", x.untell(0));
        x.later(7);
        due.yes("untold at a later one", x.untell(1));
        due.is("forty still", x.about(5), 40);
        due.is("no room for one more", x.tale(1, 0, 0), -1);
        due.is("known at 0", x.judge(1, 0), 39);
        due.is("known at 6", x.judge(1, 6), 39);
        due.is("known at 7", x.judge(1, 7), 38);
    }

    private static void tale() {
        due.quote("A TALE (PERSON NONE: nobody's): its number;");
        NoonSquare x = still();
        due.is("the first day", x.tale(1, 0, 0), 0);
        due.is("the last day", x.tale(60, 0, 0), 1);
        due.is("the last thing, the last person", x.tale(1, 1, 1), 2);
        due.is("nobody's", x.tale(1, 1, -1), 3);
        due.is("the same again", x.tale(1, 1, -1), 4);
        due.is("a day that has not been", x.tale(59, 1, -1), 5);
        due.is("tales", x.about(5), 6);
    }

    private static NoonSquare fullOfTales() {
        NoonSquare x = State.lived();
        for (int i = 3; i < 40; i++) {
            x.tale(1, 0, 0);
        }
        return x;
    }

    private static void taleRefused() {
        due.quote("NONE, doing nothing, if one can't be, or there are 40.");
        for (int none : new int[] {-1, 0, 61, Integer.MIN_VALUE, Integer.MAX_VALUE}) {
            due.refused("tale(" + none + ", 0, 0)", State::lived, x -> x.tale(none, 0, 0), -1);
        }
        for (int none : NONE_OF_TWO) {
            due.refused("tale(1, " + none + ", 0)", State::lived, x -> x.tale(1, none, 0), -1);
        }
        for (int none : new int[] {-2, 2, Integer.MIN_VALUE, Integer.MAX_VALUE}) {
            due.refused("tale(1, 0, " + none + ")", State::lived, x -> x.tale(1, 0, none), -1);
        }
        due.refused("the 41st", EdgesOfTalesTest::fullOfTales, x -> x.tale(1, 0, 1), -1);
        due.is("no things, nobody", Due.valley(A).tale(1, 0, -1), -1);
        due.is("no people", Due.valley(A + Lines.things(1, 1)).tale(1, 0, 0), -1);
        due.is("no people, nobody", Due.valley(A + Lines.things(1, 1)).tale(1, 0, -1), 0);
    }

    private static void untell() {
        due.quote("It is UNTOLD: true;");
        NoonSquare x = fullOfTales();
        due.yes("the last of forty", x.untell(39));
        due.yes("the second", x.untell(1));
        x = still();
        x.tale(9, 0, 0);
        due.is("it counts", x.judge(1, 0), 1);
        due.yes("the only one", x.untell(0));
        due.is("it does not count", x.judge(1, 0), 0);
        due.is("its number is not free", x.tale(9, 0, 0), 1);
    }

    private static void untellRefused() {
        due.quote("false if it is so already, or there is none such.");
        due.refused("untold already", State::lived, x -> x.untell(0) ? 1 : 0, 0);
        for (int none : new int[] {-1, 3, 39, 40, Integer.MIN_VALUE, Integer.MAX_VALUE}) {
            due.refused("untell(" + none + ") of three", State::lived, x -> x.untell(none) ? 1 : 0, 0);
        }
        due.refused("untell(40) of forty", EdgesOfTalesTest::fullOfTales, x -> x.untell(40) ? 1 : 0, 0);
        NoonSquare x = still();
        due.no("untell(0) of none", x.untell(0));
        x.tale(9, 0, 0);
        x.later(5);
        x.untell(0);
        x.later(5);
        due.no("again, later", x.untell(0));
        due.is("it was untold at 5", x.judge(1, 4) - x.judge(1, 5), 1);
    }

    private static NoonSquare atTime(int lastMinutes) {
        NoonSquare x = still();
        for (int i = 0; i < 99; i++) {
            x.later(1000);
        }
        x.later(lastMinutes);
        return x;
    }

    private static void later() {
        due.quote("So much later (0 .. 1000): the TIME;");
        NoonSquare x = still();
        due.is("later(0) at first", x.later(0), 0);
        due.is("later(1)", x.later(1), 1);
        due.is("later(1000)", x.later(1000), 1001);
        due.is("later(0)", x.later(0), 1001);
        due.is("about(6)", x.about(6), 1001);
        due.is("99,000 and 1,000", atTime(0).later(1000), 100000);
        due.is("100,000 and 0", atTime(1000).later(0), 100000);
    }

    private static void laterRefused() {
        due.quote("NONE, doing nothing, for another number, or if it would be above 100,000.");
        for (int none : new int[] {-1, 1001, Integer.MIN_VALUE, Integer.MAX_VALUE}) {
            due.refused("later(" + none + ")", State::lived, x -> x.later(none), -1);
        }
        due.refused("99,001 and 1,000", () -> atTime(1), x -> x.later(1000), -1);
        due.refused("100,000 and 1", () -> atTime(1000), x -> x.later(1), -1);
        due.is("99,001 and 999", atTime(1).later(999), 100000);
    }

    private static void known() {
        due.quote("As known at k those count that were TOLD at k or before, not UNTOLD at k or before.");
        NoonSquare x = still();
        x.tale(9, 0, 0);
        x.later(5);
        x.tale(9, 0, 0);
        x.later(5);
        x.untell(0);
        x.later(5);
        x.untell(1);
        int[] ks = {-1, 0, 4, 5, 9, 10, 14, 15, 16, Integer.MIN_VALUE, Integer.MAX_VALUE};
        int[] counted = {0, 1, 1, 2, 2, 1, 1, 0, 0, 0, 0};
        for (int i = 0; i < ks.length; i++) {
            due.is("known at " + ks[i], x.judge(1, ks[i]), counted[i]);
        }
        x.tale(9, 0, 0);
        due.is("at the end of time", x.judge(1, Integer.MAX_VALUE), 1);
        due.is("told just now", x.judge(1, 15), 1);
        due.is("not known before", x.judge(1, 14), 1);
        x.untell(2);
        due.is("told and untold at one time", x.judge(1, 15), 0);
    }

    private static void falseAndOpen() {
        due.quote("FALSE: it was not so, of DAYS that have been; OPEN: the DAY has not been.");
        NoonSquare x = still();
        x.give(0, 0);
        x.tale(2, 0, 0);
        x.tale(2, 0, 1);
        x.tale(2, 0, -1);
        x.tale(2, 1, -1);
        x.tale(2, 1, 0);
        x.run(1);
        due.is("day 1: none is false", x.judge(0, 0), 0);
        due.is("day 1: all are open", x.judge(1, 0), 5);
        x.image(0);
        x.run(1);
        due.is("day 2: three are false", x.judge(0, 0), 3);
        due.is("day 2: none is open", x.judge(1, 0), 0);
        x.give(0, 1);
        due.is("as it was behind the day, not as it is", x.judge(0, 0), 3);
        x.back(0);
        due.is("day 2 has not been again", x.judge(1, 0), 5);
        due.is("so none is false", x.judge(0, 0), 0);
        x.give(0, 1);
        x.run(1);
        due.is("day 2 was another one", x.judge(2, 0), 0);
        x = still();
        x.tale(60, 0, 0);
        x.run(59);
        due.is("59 days: open", x.judge(1, 0), 1);
        x.run(1);
        due.is("60 days: false", x.judge(0, 0), 1);
        due.is("60 days: not open", x.judge(1, 0), 0);
    }

    private static void doubles() {
        due.quote("DOUBLE: the first TALE that counts (by number) of a THING and a DAY of which an earlier one that counts tells"
            + " another PERSON.");
        NoonSquare x = still();
        due.is("no tale", x.judge(3, 0), -1);
        x.tale(5, 0, 0);
        due.is("one tale", x.judge(3, 0), -1);
        x.tale(5, 0, 0);
        due.is("the same person", x.judge(3, 0), -1);
        x.tale(6, 0, 1);
        due.is("another day", x.judge(3, 0), -1);
        x.tale(5, 1, 1);
        due.is("another thing", x.judge(3, 0), -1);
        x.later(1);
        x.tale(5, 0, 1);
        due.is("another person", x.judge(3, 1), 4);
        due.is("not known at 0", x.judge(3, 0), -1);
        x.tale(6, 0, -1);
        due.is("the first one", x.judge(3, 1), 4);
        x.later(1);
        x.untell(4);
        due.is("the next, nobody is another one, too", x.judge(3, 2), 5);
        x.later(1);
        x.untell(2);
        due.is("the earlier one does not count", x.judge(3, 3), -1);
        due.is("as known at 2", x.judge(3, 2), 5);
        x = still();
        x.tale(5, 0, 0);
        x.tale(5, 0, 1);
        x.untell(0);
        x.tale(5, 0, 1);
        due.is("with one that is untold", x.judge(3, 0), -1);
        x.run(9);
        x.tale(5, 0, -1);
        due.is("days that have been, too", x.judge(3, 0), 3);
    }

    private static void judge() {
        due.quote("How many TALES that count are FALSE (what 0), OPEN (1), the first FALSE one (2), DOUBLE (3);");
        NoonSquare x = still();
        x.run(3);
        for (int i = 0; i < 40; i++) {
            x.tale(i < 39 ? 3 : 4, 0, i < 38 ? -1 : 1);
        }
        due.is("false", x.judge(0, 0), 1);
        due.is("open", x.judge(1, 0), 1);
        due.is("the first false one", x.judge(2, 0), 38);
        due.is("double", x.judge(3, 0), 38);
        x.run(1);
        due.is("false behind day 4", x.judge(0, 0), 2);
        due.is("open behind day 4", x.judge(1, 0), 0);
    }

    private static void judgeRefused() {
        due.quote("NONE if there is none (2, 3), or for another what.");
        NoonSquare x = still();
        int[] none = {0, 0, -1, -1};
        for (int what = 0; what < 4; what++) {
            due.is("no tale: judge(" + what + ", 0)", x.judge(what, 0), none[what]);
        }
        x.tale(1, 0, -1);
        x.run(1);
        for (int what = 0; what < 4; what++) {
            due.is("a true one: judge(" + what + ", 0)", x.judge(what, 0), none[what]);
        }
        x.tale(1, 0, 1);
        int[] one = {1, 0, 1, 1};
        for (int what = 0; what < 4; what++) {
            due.is("a false one: judge(" + what + ", 0)", x.judge(what, 0), one[what]);
            due.is("not known at -1: judge(" + what + ", -1)", x.judge(what, -1), none[what]);
        }
        for (int what : new int[] {-1, 4, Integer.MIN_VALUE, Integer.MAX_VALUE}) {
            due.is("judge(" + what + ", 0)", x.judge(what, 0), -1);
        }
    }

    private static void seed() {
        due.quote("w is so much: what it was.");
        NoonSquare x = new NoonSquare();
        int was = 1;
        for (int w : new int[] {0, -1, Integer.MAX_VALUE, Integer.MIN_VALUE, 1, 1}) {
            due.is("seed(" + w + ")", x.seed(w), was);
            due.is("about(8)", x.about(8), w);
            was = w;
        }
    }

    private static void image() {
        due.quote("THINGS, PEOPLE, DAYS, OWNERS that are kept, and w are kept in a BOX 0 .. 2: the DAYS;");
        for (int box = 0; box < 3; box++) {
            NoonSquare x = still();
            due.is("no day: image(" + box + ")", x.image(box), 0);
            x.run(4);
            due.is("four days: image(" + box + ")", x.image(box), 4);
            x.run(1);
            due.is("the latest image of box " + box, x.back(box), 4);
            x = State.lived();
            String now = State.now(x);
            x.image(box);
            x.run(2);
            x.give(0, -1);
            x.chip(0, 9);
            x.seed(5);
            x.back(box);
            due.yes("as it was, box " + box, State.now(x).equals(now));
        }
        due.is("of a new object", new NoonSquare().image(0), 0);
    }

    private static void imageRefused() {
        due.quote("NONE if there is none such.");
        for (int none : new int[] {-1, 3, Integer.MIN_VALUE, Integer.MAX_VALUE}) {
            due.refused("image(" + none + ")", State::lived, x -> x.image(none), -1);
        }
    }

    private static void back() {
        due.quote("All is as it was kept: the DAYS;");
        NoonSquare x = still();
        x.give(0, 0);
        x.run(1);
        x.image(0);
        x.give(0, 1);
        x.run(1);
        x.image(1);
        x.give(0, -1);
        x.run(70);
        due.is("back(1)", x.back(1), 2);
        due.is("whose it was", x.thing(0, 0), 1);
        due.is("since when", x.since(0), 2);
        due.is("back(0)", x.back(0), 1);
        due.is("whose it was at first", x.thing(0, 0), 0);
        due.is("since when at first", x.since(0), 1);
        due.is("back(0) again", x.back(0), 1);
        due.is("forward to the other", x.back(1), 2);
        x.tale(1, 0, 0);
        x.tale(2, 0, 1);
        due.is("the owners that were kept", x.judge(0, 0), 0);
        x.later(4);
        x.feed(0, 0, 0, 0, 0);
        x.back(0);
        due.is("tales are no part of it", x.about(5), 2);
        due.is("nor the time", x.about(6), 4);
        due.is("nor the tape", x.about(7), 20);
        otherDays();
        x = Due.valley("late 100;law lot;" + A + Lines.things(1, 5) + Lines.people(6, "1"));
        x.image(2);
        x.run(9);
        int w = x.about(8);
        int owner = x.thing(0, 0);
        due.is("back(2)", x.back(2), 0);
        due.is("w as it was", x.about(8), 1);
        due.is("nobody's", x.thing(0, 0), -1);
        due.is("no day was late", x.about(10), 0);
        x.run(9);
        due.is("the same days again: w", x.about(8), w);
        due.is("the same days again: the owner", x.thing(0, 0), owner);
    }

    /** Days that were lived otherwise behind an image do not mix with those that another image has. */
    private static void otherDays() {
        NoonSquare x = Due.valley(A + Lines.thing("s", "a", 1, 0, 9) + Lines.thing("t", "a", 1, 0, 0)
            + Lines.person("x", "a", 0, 0, 0, "(day<3)*(heavy=0)") + Lines.person("y", "a", 0, 0, 0, "(day<2)*(heavy=0)"));
        x.run(1);
        x.image(0);
        due.is("two by it on day 1", x.thing(1, 2), 2);
        x.give(0, 0);
        x.run(1);
        x.image(1);
        x.back(0);
        x.give(0, 1);
        x.run(2);
        due.is("none by it on day 3", x.thing(1, 2), 0);
        due.is("since day 2, the other way", x.since(0), 2);
        x.back(1);
        due.is("since day 2, the one way", x.since(0), 2);
        due.is("one by it on day 2", x.thing(1, 2), 1);
        x.tale(2, 0, 0);
        due.is("the owner of that day 2", x.judge(0, 0), 0);
        x.back(0);
        due.is("two by it on day 1 again", x.thing(1, 2), 2);
    }

    private static void backRefused() {
        due.quote("NONE, doing nothing, if nothing was.");
        due.refused("back(1) of an empty box", State::lived, x -> x.back(1), -1);
        for (int none : new int[] {-1, 3, Integer.MIN_VALUE, Integer.MAX_VALUE}) {
            due.refused("back(" + none + ")", State::lived, x -> x.back(none), -1);
        }
        NoonSquare x = new NoonSquare();
        for (int box = 0; box < 3; box++) {
            due.is("of a new object: back(" + box + ")", x.back(box), -1);
            x.image(box);
            due.is("kept: back(" + box + ")", x.back(box), 0);
        }
        x.valley();
        for (int box = 0; box < 3; box++) {
            due.is("of a new valley: back(" + box + ")", x.back(box), -1);
        }
    }

    private static void about() {
        due.quote("What 0: PLACES, 1: roads, 2: THINGS, 3: PEOPLE, 4: DAYS, 5: TALES, 6: the TIME, 7: bytes on the TAPE, 8: w, 9: units,"
            + " 10: how many DAYS the bell was LATE.");
        NoonSquare x = Due.valley("late 100;" + Lines.places(8, 1) + Lines.road("a", "b", 9) + Lines.road("b", "c", 9)
            + Lines.things(10, 1) + Lines.people(6, "1+1"));
        int[] first = {8, 2, 10, 6, 0, 0, 0, 0, 1, 12, 0};
        for (int what = 0; what < first.length; what++) {
            due.is("about(" + what + ") at first", x.about(what), first[what]);
        }
        x.run(7);
        x.tale(1, 1, 1);
        x.tale(1, 1, 1);
        x.untell(0);
        x.later(1000);
        x.feed(0, 0, 0, 0, 0);
        x.end(3);
        x.seed(99);
        int[] then = {8, 2, 10, 6, 7, 2, 1000, 3, 99, 12, 7};
        for (int what = 0; what < then.length; what++) {
            due.is("about(" + what + ") then", x.about(what), then[what]);
        }
    }

    private static void aboutRefused() {
        due.quote("NONE for another what (w may be that, too).");
        NoonSquare x = State.lived();
        for (int what : new int[] {-1, 11, Integer.MIN_VALUE, Integer.MAX_VALUE}) {
            due.is("about(" + what + ")", x.about(what), -1);
        }
        x.seed(-1);
        due.is("w that is -1", x.about(8), -1);
    }
}
