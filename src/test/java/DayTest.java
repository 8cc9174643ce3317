/** Promises 6 to 12: days, things, people, ways, gifts, chips, what rules ask. */
public final class DayTest {
    private static final Due due = new Due("DayTest");

    public static void main(String[] args) {
        use();
        mend();
        food();
        heavyThings();
        near();
        force();
        lot();
        lateBell();
        manyNoons();
        aims();
        ways();
        runs();
        things();
        people();
        gifts();
        chips();
        rules();
        precedence();
        due.end();
    }

    private static void use() {
        NoonSquare x = Due.valley("place a noon 0;" + Lines.thing("s", "a", 37, 13, 5) + Lines.person("x", "a", 4, 9, 7, "0"));
        due.is("a day of nobody's things", x.run(1), 0);
        x.give(0, 0);
        due.is("37 * 100 * 7 / 100", x.run(1), 259);
        due.is("100 - 13 * 7 / 10 + 4", x.thing(0, 1), 95);
        due.is("37 * 95 * 7 / 100, cut", x.run(1), 246);
        due.is("left", x.thing(0, 1), 90);
        due.is("made in all", x.person(0, 1), 505);
        due.is("two days at once", x.run(2), 37 * 90 * 7 / 100 + 37 * 85 * 7 / 100);
        x = Due.valley("place a noon 0;" + Lines.thing("s", "a", 10, 20, 1) + Lines.person("x", "a", 0, 0, 9, "0"));
        x.give(0, 0);
        x.run(5);
        due.is("left of 100 - 5 * 18", x.thing(0, 1), 10);
        x.run(1);
        due.is("left is 0 at least", x.thing(0, 1), 0);
        due.is("nothing comes of what is used up", x.run(1), 0);
        due.is("still his", x.thing(0, 0), 0);
    }

    private static void mend() {
        NoonSquare x = Due.valley("place a noon 0;" + Lines.thing("s", "a", 1, 20, 1) + Lines.thing("t", "a", 1, 20, 1)
            + Lines.thing("u", "a", 1, 0, 1) + Lines.person("x", "a", 9, 0, 5, "0"));
        x.give(0, 0);
        x.give(1, 0);
        x.give(2, 0);
        x.run(1);
        due.is("of like ones the first is mended", x.thing(0, 1), 99);
        due.is("the other is not", x.thing(1, 1), 90);
        due.is("nor what is whole", x.thing(2, 1), 100);
        x.run(1);
        due.is("now the first only wears", x.thing(0, 1), 89);
        due.is("and the least is mended", x.thing(1, 1), 89);
        x = Due.valley("place a noon 0;" + Lines.thing("s", "a", 1, 10, 1) + Lines.person("x", "a", 9, 0, 5, "0"));
        x.give(0, 0);
        x.run(1);
        due.is("100 at most", x.thing(0, 1), 100);
    }

    private static void food() {
        String text = "place a noon 0;thing f at a worth 10 wear 20 heavy 0 food;" + Lines.person("x", "a", 0, 0, 5, "1");
        NoonSquare x = Due.valley(text + Lines.person("y", "a", 0, 0, 0, "0"));
        x.run(1);
        due.is("taken", x.thing(0, 0), 0);
        due.is("crowd", x.thing(0, 2), 1);
        due.is("not eaten yet", x.thing(0, 3), 0);
        due.is("eaten on the next day", x.run(1), 50);
        due.is("eaten", x.thing(0, 3), 1);
        due.is("nobody's then", x.thing(0, 0), -1);
        due.is("it wore by that", x.thing(0, 1), 90);
        due.is("nobody aims at it", x.person(0, 3), -1);
        due.is("nor makes by it", x.run(3), 0);
        x = Due.valley("place a noon 0;thing f at a worth 10 wear 20 heavy 1 food;" + Lines.person("y", "a", 0, 0, 0, "0"));
        x.give(0, 0);
        x.run(2);
        due.is("who does not use does not eat", x.thing(0, 3), 0);
        due.is("and has it still", x.thing(0, 0), 0);
    }

    private static void heavyThings() {
        NoonSquare x = Due.valley("place a noon 0;" + Lines.thing("s", "a", 1, 0, 0) + Lines.thing("t", "a", 1, 0, 30)
            + Lines.thing("u", "a", 1, 0, 40) + Lines.person("x", "a", 0, 29, 0, "heavy=30") + Lines.person("y", "a", 0, 40, 0, "heavy=40"));
        x.give(0, 0);
        x.give(1, 1);
        x.give(2, 0);
        x.run(1);
        due.is("light, none by it: nobody's", x.thing(0, 0), -1);
        due.is("its crowd", x.thing(0, 2), 0);
        due.is("some by it, none takes: stays whose it is", x.thing(1, 0), 1);
        due.is("the crowd counts him who can't take", x.thing(1, 2), 1);
        due.is("force like heavy takes", x.thing(2, 0), 1);
        x = Due.valley("place a noon 0;" + Lines.thing("t", "a", 1, 0, 1) + Lines.person("x", "a", 0, 29, 0, "0"));
        x.give(0, 0);
        x.run(2);
        due.is("heavy, none by it: stays whose it is", x.thing(0, 0), 0);
        due.is("its crowd", x.thing(0, 2), 0);
    }

    private static final String TWO = "place a noon 9;place b noon 9;place c noon 9;road a b minutes 7;road b c minutes 3;";

    private static void near() {
        NoonSquare x = Due.valley(TWO + Lines.thing("s", "b", 1, 0, 0) + Lines.person("x", "a", 0, 90, 0, "1")
            + Lines.person("y", "c", 0, 50, 0, "1") + Lines.person("z", "c", 0, 70, 0, "1"));
        x.run(1);
        due.is("who walked least, of like ones the first", x.thing(0, 0), 1);
        due.is("the crowd", x.thing(0, 2), 3);
        x.run(1);
        due.is("then all walked 0", x.thing(0, 0), 0);
    }

    private static void force() {
        NoonSquare x = Due.valley("law force;" + TWO + Lines.thing("s", "b", 1, 0, 60) + Lines.person("x", "c", 0, 50, 0, "1")
            + Lines.person("y", "a", 0, 70, 0, "1") + Lines.person("z", "b", 0, 70, 0, "1"));
        x.run(1);
        due.is("whose force is most, of like ones the first", x.thing(0, 0), 1);
    }

    private static int next(int w) {
        return w * 1103515245 + 12345;
    }

    private static void lot() {
        NoonSquare x = Due.valley("law lot;" + TWO + Lines.thing("s", "b", 1, 0, 60) + Lines.thing("t", "b", 1, 0, 0)
            + Lines.person("o", "b", 0, 99, 0, "worth*0") + Lines.person("x", "b", 0, 59, 0, "heavy") + Lines.person("y", "b", 0, 60, 0, "heavy")
            + Lines.person("z", "b", 0, 61, 0, "heavy") + Lines.person("v", "b", 0, 62, 0, "heavy"));
        boolean[] had = new boolean[5];
        int w = -77;
        x.seed(w);
        for (int i = 0; i < 20; i++) {
            x.run(1);
            w = next(w);
            int owner = 2 + (w >>> 16) % 3;
            due.is("lot of three on day " + i, x.thing(0, 0), owner);
            due.is("w behind it", x.about(8), w);
            due.is("the crowd", x.thing(0, 2), 4);
            had[owner] = true;
        }
        due.yes("each has it some day", had[2] && had[3] && had[4]);
        x = Due.valley("law lot;place a noon 0;" + Lines.thing("s", "a", 1, 0, 0) + Lines.person("x", "a", 0, 0, 0, "1"));
        x.run(3);
        due.is("one alone draws no lot", x.about(8), 1);
        due.is("and has it", x.thing(0, 0), 0);
    }

    private static void lateBell() {
        String text = "place a noon 5;place b noon 0;road a b minutes 70;" + Lines.thing("s", "b", 1, 0, 0)
            + Lines.person("x", "a", 0, 0, 0, "1");
        NoonSquare x = Due.valley(text);
        x.run(5);
        due.is("too far if the bell is never late", x.thing(0, 0), -1);
        due.is("he stays", x.person(0, 0), 0);
        due.is("nothing is drawn", x.about(8), 1);
        x = Due.valley(text + "late 100;");
        due.is("the aim is not late", x.person(0, 3), -1);
        x.run(1);
        due.is("70 minutes if the bell is late", x.thing(0, 0), 0);
        due.is("he went there", x.person(0, 0), 1);
        due.is("late days", x.about(10), 1);
        due.is("a draw for the bell", x.about(8), next(1));
        x.run(4);
        due.is("late days in all", x.about(10), 5);
        x = Due.valley("late 38;" + text);
        due.is("the first draw of 100", (next(1) >>> 16) % 100, 38);
        x.run(1);
        due.is("38 is not below 38", x.about(10), 0);
        x = Due.valley("late 39;" + text);
        x.run(1);
        due.is("38 is below 39", x.about(10), 1);
        x = Due.valley("late 100;place a noon 5;place b noon 0;road a b minutes 71;" + Lines.thing("s", "b", 1, 0, 0)
            + Lines.person("x", "a", 0, 0, 0, "1"));
        x.run(1);
        due.is("71 minutes are too far even so", x.thing(0, 0), -1);
    }

    private static void manyNoons() {
        String places = "place c noon 20;place a noon 0;place b noon 10;place d noon 20;";
        String roads = "road a b minutes 10;road b c minutes 11;road b d minutes 10;road c d minutes 1;";
        NoonSquare x = Due.valley(places + roads + Lines.thing("s", "a", 9, 0, 0) + Lines.thing("t", "b", 9, 0, 0)
            + Lines.thing("u", "c", 50, 0, 0) + Lines.thing("v", "d", 1, 0, 0) + Lines.person("x", "a", 0, 0, 1, "100-far-noon")
            + Lines.person("y", "d", 0, 0, 0, "(noon=20)*worth"));
        x.run(1);
        due.is("he has the first", x.thing(0, 0), 0);
        due.is("and goes on to the second, in ten minutes", x.thing(1, 0), 0);
        due.is("11 minutes were too many for the third", x.thing(2, 0), 1);
        due.is("and then he is in time for the fourth", x.thing(3, 0), 0);
        due.is("there he is", x.person(0, 0), 3);
        due.is("who stood at noon 20 does not go on to another noon 20", x.person(1, 0), 0);
        due.is("he uses all three on the next day", x.run(1), 9 + 9 + 1);
        x = Due.valley("place a noon 0;place b noon 10;road a b minutes 5;" + Lines.thing("s", "a", 9, 0, 0)
            + Lines.thing("t", "b", 9, 0, 0) + Lines.person("x", "a", 0, 0, 0, "noon=0") + Lines.person("y", "a", 0, 0, 0, "noon=10")
            + Lines.person("z", "b", 0, 0, 0, "1"));
        x.run(1);
        due.is("the near one", x.thing(0, 0), 0);
        due.is("both walked 5 to it now, of like ones the first", x.thing(1, 0), 1);
        due.is("none of a later noon: he stays", x.person(0, 0), 0);
    }

    private static void aims() {
        NoonSquare x = Due.valley("place a noon 0;" + Lines.thing("s", "a", 5, 0, 0) + Lines.thing("t", "a", 7, 0, 0)
            + Lines.thing("u", "a", 7, 0, 0) + Lines.person("x", "a", 0, 0, 0, "worth") + Lines.person("y", "a", 0, 0, 0, "worth-7")
            + Lines.person("z", "a", 0, 0, 0, "8-worth"));
        due.is("the most, of like ones the first", x.person(0, 3), 1);
        due.is("above 0", x.person(1, 3), -1);
        due.is("another rule", x.person(2, 3), 0);
        x = Due.valley("place a noon 0;place b noon 59;place c noon 0;road a b minutes 60;road a c minutes 61;"
            + Lines.thing("s", "b", 5, 0, 0) + Lines.thing("t", "c", 9, 0, 0) + Lines.person("x", "a", 0, 0, 0, "worth")
            + Lines.person("y", "b", 0, 0, 0, "worth"));
        due.is("c is too far", x.person(0, 3), 0);
        due.is("b is where he is", x.person(1, 3), 0);
        x = Due.valley("place a noon 0;place c noon 0;road a c minutes 60;" + Lines.thing("t", "c", 9, 0, 0)
            + Lines.person("x", "a", 0, 0, 0, "worth"));
        due.is("60 minutes are not too far", x.person(0, 3), 0);
        x = Due.valley("place a noon 0;" + Lines.thing("s", "a", 5, 20, 1) + Lines.person("x", "a", 0, 0, 9, "left-90"));
        x.give(0, 0);
        due.is("use and mend left out", x.person(0, 3), 0);
        x.run(1);
        due.is("but in a day they come ahead", x.thing(0, 2), 0);
    }

    private static void ways() {
        NoonSquare x = Due.valley("place a noon 0;place b noon 0;place c noon 0;place d noon 0;road a b minutes 50;"
            + "road a c minutes 10;road c b minutes 20;");
        due.is("around", x.far(0, 1), 30);
        due.is("and back", x.far(1, 0), 30);
        due.is("straight", x.far(2, 1), 20);
        due.is("no way", x.far(0, 3), 999);
        due.is("here", x.far(3, 3), 0);
        due.is("far(-1, 0)", x.far(-1, 0), -1);
        due.is("far(0, 4)", x.far(0, 4), -1);
    }

    private static void runs() {
        NoonSquare x = Due.valley("place a noon 0;" + Lines.thing("s", "a", 1, 0, 0) + Lines.person("x", "a", 0, 0, 1, "1"));
        due.is("run(-1)", x.run(-1), -1);
        due.is("run(101)", x.run(101), -1);
        due.is("run(0)", x.run(0), 0);
        due.is("no day yet", x.about(4), 0);
        due.is("run(100)", x.run(100), 99);
        for (int i = 1; i < 99; i++) {
            due.is("run(100) again", x.run(100), 100);
        }
        due.is("run(99)", x.run(99), 99);
        due.is("run(2) beyond 10,000", x.run(2), -1);
        due.is("run(1) up to 10,000", x.run(1), 1);
        due.is("run(1) beyond 10,000", x.run(1), -1);
        due.is("run(0) at 10,000", x.run(0), 0);
        due.is("days", x.about(4), 10000);
        due.is("made in all", x.person(0, 1), 9999);
    }

    private static void things() {
        NoonSquare x = Due.valley("place a noon 0;place b noon 0;" + Lines.thing("s", "b", 44, 3, 2));
        due.is("owner", x.thing(0, 0), -1);
        due.is("left", x.thing(0, 1), 100);
        due.is("crowd", x.thing(0, 2), 0);
        due.is("eaten", x.thing(0, 3), 0);
        due.is("place", x.thing(0, 4), 1);
        due.is("worth", x.thing(0, 5), 44);
        due.is("thing(0, 6)", x.thing(0, 6), -2);
        due.is("thing(0, -1)", x.thing(0, -1), -2);
        due.is("thing(1, 0)", x.thing(1, 0), -2);
        due.is("thing(-1, 0)", x.thing(-1, 0), -2);
    }

    private static void people() {
        NoonSquare x = Due.valley("place a noon 0;place b noon 0;" + Lines.thing("s", "b", 44, 3, 2) + Lines.thing("t", "a", 44, 3, 2)
            + Lines.person("x", "b", 0, 0, 0, "0"));
        due.is("place", x.person(0, 0), 1);
        due.is("made", x.person(0, 1), 0);
        due.is("things", x.person(0, 2), 0);
        x.give(0, 0);
        x.give(1, 0);
        due.is("things that were given", x.person(0, 2), 2);
        due.is("aim", x.person(0, 3), -1);
        due.is("person(0, 4)", x.person(0, 4), -2);
        due.is("person(0, -1)", x.person(0, -1), -2);
        due.is("person(1, 0)", x.person(1, 0), -2);
        due.is("person(-1, 0)", x.person(-1, 0), -2);
    }

    private static void gifts() {
        NoonSquare x = Due.valley("place a noon 0;thing f at a worth 1 wear 1 heavy 0 food;" + Lines.person("x", "a", 0, 0, 1, "0"));
        due.yes("give(0, 0)", x.give(0, 0));
        due.is("his", x.thing(0, 0), 0);
        due.yes("give(0, -1)", x.give(0, -1));
        due.is("nobody's", x.thing(0, 0), -1);
        due.no("give(0, 1)", x.give(0, 1));
        due.no("give(0, -2)", x.give(0, -2));
        due.no("give(1, 0)", x.give(1, 0));
        due.no("give(-1, 0)", x.give(-1, 0));
        x.give(0, 0);
        x.run(1);
        due.no("give of what is eaten", x.give(0, 0));
        due.no("to nobody, too", x.give(0, -1));
    }

    private static void chips() {
        NoonSquare x = Due.valley("place a noon 0;" + Lines.thing("s", "a", 44, 0, 1) + Lines.person("x", "a", 0, 0, 1, "worth"));
        due.is("chip(0, 0)", x.chip(0, 0), 44);
        due.is("chip(0, 45)", x.chip(0, 45), -1);
        due.is("chip(0, -1)", x.chip(0, -1), -1);
        due.is("chip(1, 0)", x.chip(1, 0), -1);
        due.is("chip(-1, 0)", x.chip(-1, 0), -1);
        due.is("chip(0, 4)", x.chip(0, 4), 40);
        x.give(0, 0);
        due.is("it makes less", x.run(1), 40);
        due.is("rules see it", x.asks(0, 0), 40);
        due.is("chip(0, 40)", x.chip(0, 40), 0);
        due.is("worth", x.thing(0, 5), 0);
    }

    private static int asked(String e, int days, boolean his) {
        NoonSquare x = Due.valley("place a noon 3;place b noon 7;road a b minutes 11;" + Lines.thing("s", "b", 5, 10, 2)
            + Lines.person("x", "a", 4, 6, 1, e) + Lines.person("y", "b", 0, 0, 1, "1"));
        x.run(days);
        x.give(0, his ? 0 : days > 0 ? 1 : -1);
        return x.asks(0, 0);
    }

    private static void rules() {
        due.is("worth", asked("worth", 0, false), 5);
        due.is("left", asked("left", 0, false), 100);
        due.is("heavy", asked("heavy", 0, false), 2);
        due.is("far", asked("far", 0, false), 11);
        due.is("mine", asked("mine", 0, true), 1);
        due.is("not mine", asked("mine", 1, false), 0);
        due.is("held", asked("held", 0, true), 1);
        due.is("held by another", asked("held", 1, false), 1);
        due.is("held by nobody", asked("held", 0, false), 0);
        due.is("crowd", asked("crowd", 0, false), 0);
        due.is("crowd of one", asked("crowd*(day=2)*(far=11)", 1, false), 1);
        due.is("day", asked("day*(0-1)", 4, false), -5);
        due.is("craft", asked("craft", 0, false), 4);
        due.is("force", asked("force", 0, false), 6);
        due.is("noon", asked("noon", 0, false), 7);
        due.is("wrapping", asked("9999*9999*9999", 0, false), 9999 * 9999 * 9999);
        due.is("9999", asked("9999", 0, false), 9999);
        NoonSquare x = Due.valley("place a noon 0;" + Lines.thing("s", "a", 5, 0, 0) + Lines.person("x", "a", 0, 0, 1, "1000*1000*(0-1)"));
        due.is("-1000000 as an answer", x.asks(0, 0), -1000000);
        due.is("asks(1, 0)", x.asks(1, 0), -1000000);
        due.is("asks(-1, 0)", x.asks(-1, 0), -1000000);
        due.is("asks(0, 1)", x.asks(0, 1), -1000000);
        due.is("asks(0, -1)", x.asks(0, -1), -1000000);
        x = Due.valley("place a noon 0;place b noon 0;thing f at b worth 5 wear 0 heavy 0 food;" + Lines.thing("s", "a", 1, 0, 0)
            + Lines.person("x", "a", 0, 0, 1, "far+crowd+mine"));
        x.give(0, 0);
        x.run(1);
        due.is("an eaten one, too, and no way", x.asks(0, 0), 999);
        x = Due.valley("place a noon 0;" + Lines.thing("s", "a", 5, 0, 0) + Lines.person("x", "a", 0, 0, 1, "1+crowd*10")
            + Lines.person("y", "a", 0, 0, 1, "1"));
        x.run(1);
        due.is("crowd as it is now", x.asks(0, 0), 21);
    }

    private static void precedence() {
        due.is("* ahead of +", asked("2+3*4", 0, false), 14);
        due.is("- from the left", asked("20-5-6", 0, false), 9);
        due.is("brackets", asked("20-(5-6)", 0, false), 21);
        due.is("<", asked("1<2", 0, false), 1);
        due.is("not <", asked("2<2", 0, false), 0);
        due.is(">", asked("3>2", 0, false), 1);
        due.is("not >", asked("2>2", 0, false), 0);
        due.is("=", asked("2=2", 0, false), 1);
        due.is("not =", asked("2=3", 0, false), 0);
        due.is("sums ahead of relations", asked("1+1=2*1", 0, false), 1);
        due.is("and is 1 of what is not 0", asked("5 and 7", 0, false), 1);
        due.is("and of 0", asked("5 and 0", 0, false), 0);
        due.is("or is 1", asked("0 or 7", 0, false), 1);
        due.is("or of 0", asked("0 or 0", 0, false), 0);
        due.is("and ahead of or", asked("1 or 1 and 0", 0, false), 1);
        due.is("not of what is not 0", asked("not 5", 0, false), 0);
        due.is("not of 0", asked("not 0", 0, false), 1);
        due.is("not takes a whole relation", asked("not 1=2", 0, false), 1);
        due.is("not ahead of and", asked("not 0 and 0", 0, false), 0);
        due.is("not not", asked("not not 5", 0, false), 1);
        due.is("(e) as a unit", asked("(1<2)*7+(2<1)*9", 0, false), 7);
        due.is("below 0 is not 0", asked("(0-1) and 1", 0, false), 1);
    }
}
