/** Promises 13 to 21: what would be, which is found and leaves what there is. */
public final class WouldBeTest {
    private static final Due due = new Due("WouldBeTest");

    public static void main(String[] args) {
        chances();
        chanceOfFood();
        lateChances();
        rests();
        restByLot();
        restOfHeavyThings();
        spent();
        made();
        laws();
        used();
        keeps();
        lifts();
        tours();
        leaves();
        due.end();
    }

    private static void chance(NoonSquare x, int thing, int person, int upper, int lower) {
        due.is("chance(" + thing + ", " + person + ", 0)", x.chance(thing, person, 0), upper);
        due.is("chance(" + thing + ", " + person + ", 1)", x.chance(thing, person, 1), lower);
    }

    private static void chances() {
        NoonSquare x = Due.valley("law lot;place a noon 0;" + Lines.thing("s", "a", 1, 0, 0) + Lines.thing("t", "a", 1, 0, 50)
            + Lines.thing("u", "a", 1, 0, 50) + Lines.person("x", "a", 0, 0, 1, "heavy=0") + Lines.person("y", "a", 0, 0, 1, "heavy=0")
            + Lines.person("z", "a", 0, 0, 1, "heavy=0") + Lines.person("v", "a", 0, 20, 1, "heavy=50"));
        x.give(1, 2);
        chance(x, 0, 0, 1, 3);
        chance(x, 0, 2, 1, 3);
        chance(x, 0, 3, 0, 1);
        chance(x, 0, -1, 0, 1);
        chance(x, 1, 2, 1, 1);
        chance(x, 1, 3, 0, 1);
        chance(x, 2, -1, 1, 1);
        due.is("chance(0, 4, 0)", x.chance(0, 4, 0), -1);
        due.is("chance(0, -2, 0)", x.chance(0, -2, 0), -1);
        due.is("chance(3, 0, 0)", x.chance(3, 0, 0), -1);
        due.is("chance(-1, 0, 0)", x.chance(-1, 0, 0), -1);
        due.is("chance(0, 0, 2)", x.chance(0, 0, 2), -1);
        due.is("chance(0, 0, -1)", x.chance(0, 0, -1), -1);
        x = Due.valley("place a noon 0;" + Lines.thing("s", "a", 1, 20, 0) + Lines.person("x", "a", 0, 0, 5, "left=90")
            + Lines.person("y", "a", 9, 0, 0, "left=99"));
        chance(x, 0, -1, 1, 1);
        x.give(0, 0);
        chance(x, 0, 0, 1, 1);
        x.run(1);
        x.give(0, 1);
        chance(x, 0, 1, 1, 1);
        chance(x, 0, 0, 0, 1);
        x = Due.valley("place a noon 0;" + Lines.thing("s", "a", 1, 0, 0) + Lines.person("x", "a", 0, 0, 0, "day=3"));
        x.run(1);
        chance(x, 0, 0, 0, 1);
        x.run(1);
        chance(x, 0, 0, 1, 1);
    }

    private static void chanceOfFood() {
        NoonSquare x = Due.valley("place a noon 0;thing f at a worth 1 wear 1 heavy 0 food;" + Lines.person("x", "a", 0, 0, 1, "1")
            + Lines.person("y", "a", 0, 0, 0, "0"));
        chance(x, 0, 0, 1, 1);
        x.give(0, 1);
        chance(x, 0, 0, 1, 1);
        x.give(0, 0);
        due.is("eaten by then", x.chance(0, 0, 0), -1);
        due.is("eaten by then, lower part", x.chance(0, -1, 1), -1);
        due.is("not eaten now", x.thing(0, 3), 0);
        x.run(1);
        due.is("eaten now", x.chance(0, 0, 0), -1);
    }

    private static void lateChances() {
        String text = "place a noon 0;place b noon 0;road a b minutes 65;law lot;" + Lines.thing("s", "b", 1, 0, 0)
            + Lines.person("x", "a", 0, 0, 0, "1") + Lines.person("y", "b", 0, 0, 0, "1");
        NoonSquare x = Due.valley(text + "late 30;");
        chance(x, 0, 0, 3, 20);
        chance(x, 0, 1, 17, 20);
        chance(x, 0, -1, 0, 1);
        x = Due.valley(text + "late 100;");
        chance(x, 0, 0, 1, 2);
        chance(x, 0, 1, 1, 2);
        x = Due.valley(text);
        chance(x, 0, 0, 0, 1);
        chance(x, 0, 1, 1, 1);
        x = Due.valley("place a noon 0;place b noon 0;road a b minutes 65;late 7;" + Lines.thing("s", "b", 1, 0, 0)
            + Lines.person("x", "a", 0, 0, 0, "1"));
        chance(x, 0, 0, 7, 100);
        chance(x, 0, -1, 93, 100);
    }

    private static void rests() {
        NoonSquare x = Due.valley("place a noon 0;place b noon 0;road a b minutes 9;" + Lines.thing("s", "a", 80, 0, 0)
            + Lines.thing("t", "b", 50, 0, 0) + Lines.person("x", "b", 0, 10, 0, "0") + Lines.person("y", "a", 0, 20, 0, "0"));
        due.is("near: each by his own", x.rest(0), 1);
        due.is("its pay", x.rest(1), 130);
        due.is("none lost", x.rest(2), 0);
        due.is("x by t", x.stands(0, 0), 1);
        due.is("y by s", x.stands(0, 1), 0);
        due.is("stands(1, 0)", x.stands(1, 0), -3);
        due.is("stands(-1, 0)", x.stands(-1, 0), -3);
        due.is("stands(0, 2)", x.stands(0, 2), -3);
        due.is("stands(0, -1)", x.stands(0, -1), -3);
        due.is("rest(3)", x.rest(3), -1);
        due.is("rest(-1)", x.rest(-1), -1);
        x = Due.valley("place a noon 0;place b noon 0;" + Lines.thing("s", "a", 80, 0, 0) + Lines.person("x", "a", 0, 0, 0, "0")
            + Lines.person("y", "a", 0, 0, 0, "0") + Lines.person("z", "b", 0, 0, 0, "0"));
        due.is("of like ones the first has it: y by s or by none", x.rest(0), 2);
        due.is("the most pay", x.rest(1), 80);
        due.is("the least lost", x.rest(2), 0);
        due.is("row 0 of y", x.stands(0, 1), 0);
        due.is("row 1 of y: none, the last", x.stands(1, 1), -1);
        due.is("z reaches nothing", x.stands(0, 2), -1);
        due.is("x in row 1", x.stands(1, 0), 0);
        x = Due.valley("law force;place a noon 0;" + Lines.thing("s", "a", 80, 0, 0) + Lines.thing("t", "a", 30, 0, 0)
            + Lines.person("x", "a", 0, 10, 0, "0") + Lines.person("y", "a", 0, 20, 0, "0"));
        due.is("force: one row", x.rest(0), 1);
        due.is("the strong one by s", x.stands(0, 1), 0);
        due.is("the other by t", x.stands(0, 0), 1);
        order();
    }

    private static void order() {
        NoonSquare x = Due.valley("law lot;place a noon 0;" + Lines.thing("s", "a", 10, 0, 0) + Lines.thing("t", "a", 10, 0, 0)
            + Lines.person("x", "a", 0, 0, 0, "0") + Lines.person("y", "a", 0, 0, 0, "0"));
        due.is("one by each", x.rest(0), 2);
        due.is("row 0: the first person's choice is counted up last", x.stands(0, 0), 0);
        due.is("row 0 of y", x.stands(0, 1), 1);
        due.is("row 1 of x", x.stands(1, 0), 1);
        due.is("row 1 of y", x.stands(1, 1), 0);
    }

    private static void restByLot() {
        NoonSquare x = Due.valley("law lot;place a noon 0;" + Lines.thing("s", "a", 35, 20, 0) + Lines.person("x", "a", 0, 0, 9, "0")
            + Lines.person("y", "a", 0, 0, 0, "0") + Lines.person("z", "a", 0, 0, 0, "0"));
        due.is("all by it", x.rest(0), 1);
        due.is("35 / 3 each, cut", x.rest(1), 33);
        due.is("all but one lost", x.rest(2), 2);
        x.give(0, 0);
        x.run(1);
        due.is("left", x.thing(0, 1), 82);
        due.is("35 * 82 / 100 is 28, a third 9", x.rest(1), 27);
        x.chip(0, 35);
        due.is("worth nothing: every row", x.rest(0), 8);
        due.is("no pay", x.rest(1), 0);
        due.is("none lost by standing by none", x.rest(2), 0);
        x = Due.valley("law lot;place a noon 0;place b noon 0;thing f at a worth 5 wear 0 heavy 0 food;"
            + Lines.thing("t", "b", 9, 0, 0) + Lines.person("x", "a", 0, 0, 9, "0"));
        due.is("by f alone, t is out of reach", x.rest(0), 1);
        due.is("f", x.stands(0, 0), 0);
        x.give(0, 0);
        x.run(1);
        due.is("f is eaten", x.rest(0), 1);
        due.is("by none", x.stands(0, 0), -1);
    }

    private static void restOfHeavyThings() {
        NoonSquare x = Due.valley("place a noon 0;" + Lines.thing("s", "a", 50, 0, 30) + Lines.person("x", "a", 0, 20, 0, "0"));
        due.is("who can't take has no pay, by it or not", x.rest(0), 2);
        due.is("no pay", x.rest(1), 0);
        x.give(0, 0);
        due.is("what stays his pays nothing by law", x.rest(0), 2);
        due.is("pay", x.rest(1), 0);
        x = Due.valley("place a noon 0;place b noon 0;road a b minutes 60;" + Lines.thing("s", "b", 50, 0, 30)
            + Lines.person("x", "a", 0, 20, 0, "0") + Lines.person("y", "a", 0, 40, 0, "0"));
        due.is("y takes it, x stands by it or not", x.rest(0), 2);
        due.is("least lost", x.rest(2), 0);
        due.is("60 minutes are in time", x.stands(0, 1), 0);
        x = Due.valley("place a noon 0;place b noon 0;road a b minutes 61;" + Lines.thing("s", "b", 50, 0, 0)
            + Lines.person("x", "a", 0, 20, 0, "0") + "late 100;");
        due.is("61 are not, however late the bell", x.stands(0, 0), -1);
    }

    private static void spent() {
        String people = Lines.person("x", "a", 0, 0, 0, "0") + Lines.person("y", "a", 0, 0, 0, "0") + Lines.person("z", "a", 0, 0, 0, "0")
            + Lines.person("u", "a", 0, 0, 0, "0") + Lines.person("v", "a", 0, 0, 0, "0");
        StringBuilder text = new StringBuilder("place a noon 0;" + people);
        for (char c = 'a'; c < 'g'; c++) {
            text.append(Lines.thing("" + c, "a", 1, 0, 0));
        }
        NoonSquare x = Due.valley(text.toString());
        due.is("7 to the power of 5 is 16,807", x.rest(0), 6 * 5 * 4 * 3 * 2);
        due.is("each has one", x.rest(1), 5);
        due.is("row 719", x.stands(719, 0), 5);
        due.is("row 720", x.stands(720, 0), -3);
        x = Due.valley(text + Lines.thing("g", "a", 1, 0, 0));
        for (int what = 0; what < 3; what++) {
            due.is("8 to the power of 5: rest(" + what + ")", x.rest(what), -2);
        }
        due.is("stands(0, 0)", x.stands(0, 0), -2);
        standsWhenSpent(x);
    }

    /** A standing that is none, by its number or by its person, is not told from another where all is spent. */
    private static void standsWhenSpent(NoonSquare x) {
        int[] none = {-1, 20001, Integer.MIN_VALUE, Integer.MAX_VALUE};
        for (int i : none) {
            due.is("spent: stands(" + i + ", 0)", x.stands(i, 0), -2);
            due.is("spent: stands(0, " + i + ")", x.stands(0, i), -2);
            due.is("spent: stands(" + i + ", " + i + ")", x.stands(i, i), -2);
        }
        due.is("spent: stands(0, 5), behind the last person", x.stands(0, 5), -2);
        due.is("spent: rest(3) asks for nothing", x.rest(3), -1);
        due.is("spent: rest(-1) asks for nothing", x.rest(-1), -1);
    }

    private static void made() {
        NoonSquare x = Due.valley("place a noon 0;" + Lines.thing("s", "a", 50, 10, 0) + Lines.person("x", "a", 0, 10, 1, "1")
            + Lines.person("y", "a", 0, 20, 5, "1"));
        due.is("made(0, 0)", x.made(0, 0), 0);
        due.is("nobody's on the first day", x.made(1, 0), 0);
        due.is("near: x, on the second and third", x.made(3, 0), 50 + 49);
        due.is("near", x.made(3, 1), 50 + 49);
        due.is("force: y", x.made(3, 2), 250 + 237);
        due.is("kept: nobody's", x.made(3, 4), 0);
        due.is("lot by w", x.made(3, 3), lots(1, 3));
        x.seed(5);
        due.is("lot by another w", x.made(40, 3), lots(5, 40));
        x.give(0, 1);
        due.is("kept: y's", x.made(3, 4), 250 + 237 + 225);
        due.is("made(41, 0)", x.made(41, 0), -1);
        due.is("made(-1, 0)", x.made(-1, 0), -1);
        due.is("made(1, 5)", x.made(1, 5), -1);
        due.is("made(1, -1)", x.made(1, -1), -1);
    }

    /** Days of the valley of made(): the owner by lot, none on the first day. */
    private static int lots(int w, int days) {
        int total = 0;
        int left = 100;
        int state = w;
        int owner = -1;
        for (int day = 0; day < days; day++) {
            if (owner >= 0) {
                int hard = owner == 0 ? 1 : 5;
                total += 50 * left * hard / 100;
                left = Math.max(0, left - hard);
            }
            state = state * 1103515245 + 12345;
            owner = (state >>> 16) % 2;
        }
        return total;
    }

    private static void laws() {
        NoonSquare x = Due.valley("law lot;place a noon 0;" + Lines.thing("s", "a", 50, 10, 0) + Lines.person("x", "a", 0, 10, 1, "1")
            + Lines.person("y", "a", 0, 20, 5, "1"));
        due.is("of like ones the first", x.law(1), 0);
        due.is("by force most is made", x.law(5), 1);
        due.is("law(0)", x.law(0), 0);
        due.is("law(40)", x.law(40) >= 0 ? 1 : 0, 1);
        due.is("law(41)", x.law(41), -1);
        due.is("law(-1)", x.law(-1), -1);
        x = Due.valley("place a noon 0;" + Lines.thing("s", "a", 50, 0, 0) + Lines.person("x", "a", 0, 30, 1, "1")
            + Lines.person("y", "a", 0, 20, 5, "1"));
        due.is("x by near and by force", x.made(2, 1) + x.made(2, 2), 100);
        x.seed(1);
        int drawn = (1103527590 >>> 16) % 2;
        due.is("by lot, if y is drawn", x.law(2), drawn == 1 ? 2 : 0);
        x.seed(2);
        drawn = (2 * 1103515245 + 12345 >>> 16) % 2;
        due.is("by lot, another w", x.law(2), drawn == 1 ? 2 : 0);
    }

    private static void used() {
        NoonSquare x = Due.valley("place a noon 0;" + Lines.thing("s", "a", 50, 10, 0) + "thing f at a worth 10 wear 0 heavy 0 food;"
            + Lines.thing("t", "a", 99, 20, 0) + Lines.thing("u", "a", 0, 20, 0) + Lines.person("x", "a", 0, 0, 9, "0"));
        due.is("one day: as hard as can be", x.used(0, 1, 100, 0), 9);
        due.is("50 * 100 * 9 * 10", x.used(0, 1, 100, 1), 450000);
        due.is("two days", x.used(0, 2, 100, 1), 450000 + 409500);
        due.is("two days, half his", x.used(0, 2, 50, 1), 450000 + 204750);
        due.is("two days, a third cut", x.used(0, 2, 33, 1), 450000 + 409500 * 33 / 100);
        due.is("food is gone on the first day", x.used(1, 5, 100, 1), 90000);
        due.is("and that is the least hard for it", x.used(1, 1, 100, 0), 9);
        due.is("food waits for nothing, so 0 is least", x.used(1, 2, 100, 0), 0);
        due.is("food, half his: now", x.used(1, 2, 50, 0), 9);
        due.is("worth nothing: 0 is the least", x.used(3, 9, 100, 0), 0);
        due.is("worth nothing", x.used(3, 9, 100, 1), 0);
        due.is("thirty days", x.used(2, 30, 100, 1), best(99, 100, 20, 30, 100)[1]);
        due.is("thirty days, how hard", x.used(2, 30, 100, 0), best(99, 100, 20, 30, 100)[0]);
        due.is("thirty days without wear go beyond 2^31 hundredths", Due.valley("place a noon 0;"
            + Lines.thing("s", "a", 99, 0, 0)).used(0, 30, 100, 1), 30 * 891000);
        due.is("used(4, 1, 1, 0)", x.used(4, 1, 1, 0), -1);
        due.is("used(-1, 1, 1, 0)", x.used(-1, 1, 1, 0), -1);
        due.is("used(0, 0, 1, 0)", x.used(0, 0, 1, 0), -1);
        due.is("used(0, 31, 1, 0)", x.used(0, 31, 1, 0), -1);
        due.is("used(0, 1, 101, 0)", x.used(0, 1, 101, 0), -1);
        due.is("used(0, 1, -1, 0)", x.used(0, 1, -1, 0), -1);
        due.is("used(0, 1, 1, 2)", x.used(0, 1, 1, 2), -1);
        due.is("used(0, 1, 1, -1)", x.used(0, 1, 1, -1), -1);
        x.give(1, 0);
        x.give(2, 0);
        x.run(1);
        due.is("eaten", x.used(1, 1, 1, 0), -1);
        due.is("left is 82", x.used(2, 1, 100, 1), 99 * 82 * 90);
    }

    /** How hard on the first day, and what comes. */
    private static int[] best(int worth, int left, int wear, int n, int c) {
        long[][] most = new long[n + 1][101];
        int first = 0;
        for (int d = 1; d <= n; d++) {
            for (int l = 0; l <= 100; l++) {
                most[d][l] = -1;
                for (int h = 0; h <= 9; h++) {
                    long comes = (long) worth * l * h * 10 + c * most[d - 1][Math.max(0, l - wear * h / 10)] / 100;
                    if (comes > most[d][l]) {
                        most[d][l] = comes;
                        first = d == n && l == left ? h : first;
                    }
                }
            }
        }
        return new int[] {first, (int) most[n][left]};
    }

    private static void keeps() {
        NoonSquare x = Due.valley("place a noon 0;" + Lines.thing("s", "a", 50, 0, 0) + Lines.thing("t", "a", 40, 0, 0)
            + "thing f at a worth 9 wear 0 heavy 0 food;" + Lines.person("x", "a", 0, 0, 1, "worth") + Lines.person("y", "a", 0, 0, 1, "worth+mine*3"));
        due.is("nobody's", x.keeps(0), -1);
        x.give(0, 1);
        due.is("ten less: x takes s still, of like ones the first; eleven less", x.keeps(0), 11);
        due.is("worth stays", x.thing(0, 5), 50);
        x.give(1, 1);
        due.is("y stands by s", x.keeps(1), -1);
        x.give(1, -1);
        x.give(0, 0);
        due.is("x has it anyway", x.keeps(0), 0);
        x.give(2, 0);
        due.is("eaten by then", x.keeps(2), -1);
        x.run(1);
        due.is("eaten", x.keeps(2), -1);
        due.is("keeps(3)", x.keeps(3), -1);
        due.is("keeps(-1)", x.keeps(-1), -1);
        x = Due.valley("law lot;place a noon 0;" + Lines.thing("s", "a", 50, 0, 0) + Lines.person("x", "a", 0, 0, 1, "worth-20")
            + Lines.person("y", "a", 0, 0, 1, "1"));
        x.give(0, 1);
        due.is("by lot y is sure of it if he is alone", x.keeps(0), 30);
        x = Due.valley("place a noon 0;place b noon 0;road a b minutes 65;late 1;" + Lines.thing("s", "b", 50, 0, 0)
            + Lines.person("x", "a", 0, 0, 1, "worth-20") + Lines.person("y", "b", 0, 0, 1, "worth>9"));
        x.give(0, 1);
        due.is("near: y is nearer, late or not", x.keeps(0), 0);
        x = Due.valley("law force;place a noon 0;place b noon 0;road a b minutes 65;late 1;" + Lines.thing("s", "b", 50, 0, 0)
            + Lines.person("x", "a", 0, 9, 1, "worth-20") + Lines.person("y", "b", 0, 0, 1, "worth>9"));
        x.give(0, 1);
        due.is("force: one day of a hundred x is in time", x.keeps(0), 30);
        x = Due.valley("place a noon 0;" + Lines.thing("s", "a", 50, 0, 9) + Lines.person("x", "a", 0, 0, 1, "0"));
        x.give(0, 0);
        due.is("too heavy for all", x.keeps(0), 0);
    }

    private static void lifts() {
        NoonSquare x = Due.valley("place a noon 0;" + Lines.thing("s", "a", 50, 0, 30) + Lines.thing("t", "a", 50, 0, 31)
            + Lines.thing("u", "a", 50, 0, 50) + Lines.thing("v", "a", 50, 0, 51) + Lines.thing("w", "a", 50, 0, 0)
            + Lines.person("x", "a", 0, 20, 1, "0") + Lines.person("y", "a", 0, 30, 1, "0") + Lines.person("z", "a", 0, 0, 1, "0"));
        due.is("above each, not above both", x.lift(0, 1), 2 + 4);
        due.is("the other way", x.lift(1, 0), 2 + 4);
        due.is("with a weak one", x.lift(1, 2), 0);
        due.is("lift(0, 0)", x.lift(0, 0), -1);
        due.is("lift(0, 3)", x.lift(0, 3), -1);
        due.is("lift(3, 0)", x.lift(3, 0), -1);
        due.is("lift(-1, 0)", x.lift(-1, 0), -1);
    }

    private static void tours() {
        NoonSquare x = Due.valley("place a noon 20;place b noon 0;place c noon 10;place d noon 30;place e noon 40;"
            + "road a b minutes 60;road b c minutes 10;road c a minutes 11;road c d minutes 20;road d e minutes 9;"
            + Lines.thing("s", "b", 1, 0, 0) + Lines.thing("t", "c", 1, 0, 0) + "thing f at d worth 1 wear 0 heavy 0 food;"
            + Lines.thing("u", "a", 1, 0, 0) + Lines.person("x", "a", 0, 0, 1, "0") + Lines.person("y", "e", 0, 0, 1, "0"));
        due.is("b, c, d; e has no thing; c to a is too far", x.tour(0), 3);
        due.is("from e: d, or c and d, or b, c and d", x.tour(1), 3);
        x.give(2, 0);
        x.run(1);
        due.is("the food of d is eaten", x.tour(0), 2);
        due.is("tour(2)", x.tour(2), -1);
        due.is("tour(-1)", x.tour(-1), -1);
        x = Due.valley("place a noon 0;place b noon 0;road a b minutes 1;" + Lines.thing("s", "a", 1, 0, 0)
            + Lines.thing("t", "a", 1, 0, 0) + Lines.thing("u", "b", 1, 0, 0) + Lines.person("x", "a", 0, 0, 1, "0"));
        due.is("unlike places, one noon", x.tour(0), 1);
        x = Due.valley("place a noon 0;place b noon 0;road a b minutes 61;late 100;" + Lines.thing("u", "b", 1, 0, 0)
            + Lines.person("x", "a", 0, 0, 1, "0"));
        due.is("not late", x.tour(0), 0);
    }

    private static void leaves() {
        NoonSquare x = Due.valley("law lot;late 50;place a noon 0;place b noon 5;road a b minutes 3;"
            + Lines.thing("s", "a", 50, 9, 0) + Lines.thing("t", "b", 20, 9, 10) + "thing f at b worth 9 wear 0 heavy 0 food;"
            + Lines.person("x", "a", 3, 20, 5, "worth*left") + Lines.person("y", "b", 2, 10, 4, "100-far"));
        x.run(3);
        x.give(2, 0);
        int before = sum(x);
        x.chance(0, 1, 0);
        x.rest(0);
        x.stands(0, 1);
        x.made(40, 0);
        x.made(9, 4);
        x.law(20);
        x.used(0, 9, 90, 0);
        x.keeps(0);
        x.keeps(1);
        x.lift(0, 1);
        x.tour(0);
        x.person(0, 3);
        x.asks(1, 1);
        due.is("all is as it was", sum(x), before);
    }

    private static int sum(NoonSquare x) {
        int sum = 0;
        for (int t = 0; t < 3; t++) {
            for (int what = 0; what < 6; what++) {
                sum = sum * 31 + x.thing(t, what);
            }
            sum = sum * 31 + x.since(t);
        }
        for (int p = 0; p < 2; p++) {
            for (int what = 0; what < 4; what++) {
                sum = sum * 31 + x.person(p, what);
            }
        }
        for (int what = 0; what <= 10; what++) {
            sum = sum * 31 + x.about(what);
        }
        return sum;
    }
}
