/** Promises 22 to 30: since when, tales and their judgement, the draws, images, what there is. */
public final class TalesTest {
    private static final Due due = new Due("TalesTest");
    private static final String TEXT = "place a noon 0;place b noon 5;road a b minutes 2;"
        + "thing s at a worth 9 wear 10 heavy 0;thing t at a worth 9 wear 0 heavy 50;"
        + "thing f at a worth 9 wear 0 heavy 99 food;"
        + "person x at a craft 0 force 10 hard 3 stands (day<3)*(heavy=0);"
        + "person y at b craft 0 force 10 hard 1 stands (day>2)*(heavy=0);";

    public static void main(String[] args) {
        since();
        tales();
        judges();
        judgesInTwoTimes();
        doubles();
        later();
        seed();
        images();
        about();
        due.end();
    }

    private static void since() {
        NoonSquare x = Due.valley(TEXT);
        x.give(0, 0);
        due.is("no day has been", x.since(0), -1);
        x.run(2);
        due.is("x has it since day 1", x.since(0), 1);
        due.is("nobody's", x.since(1), -1);
        x.give(1, 0);
        due.is("another one than behind the latest day", x.since(1), -1);
        x.run(1);
        due.is("y has it since day 3", x.since(0), 3);
        due.is("t was given ahead of day 3", x.since(1), 3);
        x.give(1, 1);
        x.run(2);
        due.is("y has it still since day 3", x.since(0), 3);
        due.is("t since day 4", x.since(1), 4);
        x.give(1, 0);
        due.is("given to another", x.since(1), -1);
        x.run(1);
        x.give(1, 1);
        x.run(1);
        due.is("one behind the other: y's again since day 7", x.since(1), 7);
        due.is("since(3)", x.since(3), -1);
        due.is("since(-1)", x.since(-1), -1);
        x.run(53);
        due.is("60 days", x.since(0), 3);
        x.run(1);
        due.is("more than 60 days", x.since(0), -1);
    }

    private static void tales() {
        NoonSquare x = Due.valley(TEXT);
        due.is("tale(1, 0, 0)", x.tale(1, 0, 0), 0);
        due.is("tale(60, 2, 1)", x.tale(60, 2, 1), 1);
        due.is("tale(60, 2, -1)", x.tale(60, 2, -1), 2);
        due.is("tale(0, 0, 0)", x.tale(0, 0, 0), -1);
        due.is("tale(61, 0, 0)", x.tale(61, 0, 0), -1);
        due.is("tale(1, 3, 0)", x.tale(1, 3, 0), -1);
        due.is("tale(1, -1, 0)", x.tale(1, -1, 0), -1);
        due.is("tale(1, 0, 2)", x.tale(1, 0, 2), -1);
        due.is("tale(1, 0, -2)", x.tale(1, 0, -2), -1);
        due.is("about(5)", x.about(5), 3);
        due.yes("untell(1)", x.untell(1));
        due.no("untell(1) again", x.untell(1));
        due.no("untell(3)", x.untell(3));
        due.no("untell(-1)", x.untell(-1));
        for (int i = 3; i < 40; i++) {
            due.is("tale " + i, x.tale(1, 0, 0), i);
        }
        due.is("the 41st", x.tale(1, 0, 0), -1);
        due.is("about(5) of all", x.about(5), 40);
    }

    private static void judges() {
        NoonSquare x = Due.valley(TEXT);
        x.tale(1, 0, 0);
        x.tale(3, 0, 0);
        x.tale(2, 1, -1);
        x.tale(4, 0, 1);
        x.tale(2, 1, 1);
        due.is("nothing false ahead of all", x.judge(0, 0), 0);
        due.is("all open", x.judge(1, 0), 5);
        due.is("no first false", x.judge(2, 0), -1);
        x.run(2);
        due.is("false: tale 4", x.judge(0, 0), 1);
        due.is("open: 1 and 3", x.judge(1, 0), 2);
        due.is("the first false", x.judge(2, 0), 4);
        x.run(1);
        due.is("false: tales 1 and 4", x.judge(0, 0), 2);
        due.is("open: 3", x.judge(1, 0), 1);
        due.is("the first false", x.judge(2, 0), 1);
        x.run(100);
        due.is("the first 60 days are kept", x.judge(0, 0), 2);
        due.is("none open", x.judge(1, 0), 0);
        due.is("judge(4, 0)", x.judge(4, 0), -1);
        due.is("judge(-1, 0)", x.judge(-1, 0), -1);
        x.tale(60, 0, 1);
        x.tale(60, 0, 0);
        due.is("day 60", x.judge(0, 0), 3);
    }

    private static void judgesInTwoTimes() {
        NoonSquare x = Due.valley(TEXT);
        x.run(1);
        x.later(5);
        x.tale(1, 0, 1);
        x.later(5);
        x.untell(0);
        x.tale(9, 0, 1);
        due.is("not told yet at 4", x.judge(0, 4), 0);
        due.is("told at 5", x.judge(0, 5), 1);
        due.is("still counts at 9", x.judge(0, 9), 1);
        due.is("untold at 10", x.judge(0, 10), 0);
        due.is("no first at 10", x.judge(2, 10), -1);
        due.is("open at 9", x.judge(1, 9), 0);
        due.is("open at 10", x.judge(1, 10), 1);
        due.is("open at the end of time", x.judge(1, Integer.MAX_VALUE), 1);
        due.is("ahead of time", x.judge(1, Integer.MIN_VALUE), 0);
        x.untell(1);
        due.is("told and untold at the same time", x.judge(1, 10), 0);
    }

    private static void doubles() {
        NoonSquare x = Due.valley(TEXT);
        x.tale(9, 0, 0);
        x.tale(9, 1, 1);
        x.tale(8, 0, 1);
        x.tale(9, 0, 0);
        due.is("all agree", x.judge(3, 0), -1);
        x.later(1);
        x.tale(9, 0, -1);
        x.tale(9, 1, 0);
        due.is("known at 0", x.judge(3, 0), -1);
        due.is("nobody is another one", x.judge(3, 1), 4);
        x.later(1);
        x.untell(4);
        due.is("untold", x.judge(3, 2), 5);
        due.is("but known at 1", x.judge(3, 1), 4);
        x.later(1);
        x.untell(1);
        due.is("the earlier one must count, too", x.judge(3, 3), -1);
    }

    private static void later() {
        NoonSquare x = new NoonSquare();
        due.is("later(0)", x.later(0), 0);
        due.is("later(-1)", x.later(-1), -1);
        due.is("later(1001)", x.later(1001), -1);
        for (int i = 1; i < 100; i++) {
            due.is("later(1000)", x.later(1000), i * 1000);
        }
        due.is("later(999)", x.later(999), 99999);
        due.is("later(2)", x.later(2), -1);
        due.is("later(1)", x.later(1), 100000);
        due.is("later(1) again", x.later(1), -1);
        due.is("later(0) at the end", x.later(0), 100000);
        due.is("about(6)", x.about(6), 100000);
    }

    private static void seed() {
        NoonSquare x = new NoonSquare();
        due.is("w at first", x.seed(-1), 1);
        due.is("w as it was", x.seed(77), -1);
        due.is("about(8)", x.about(8), 77);
    }

    private static void images() {
        NoonSquare x = Due.valley(TEXT + "late 50;");
        x.run(2);
        x.give(2, 0);
        due.is("image(0)", x.image(0), 2);
        due.is("image(3)", x.image(3), -1);
        due.is("image(-1)", x.image(-1), -1);
        due.is("back(1) of an empty box", x.back(1), -1);
        due.is("back(3)", x.back(3), -1);
        due.is("back(-1)", x.back(-1), -1);
        int[] before = state(x);
        x.later(3);
        x.tale(3, 0, 1);
        x.chip(0, 5);
        x.give(1, 1);
        due.is("three days", x.run(3), x.person(0, 1) + x.person(1, 1) - before[before.length - 1]);
        due.is("the food is eaten", x.thing(2, 3), 1);
        due.is("image(2)", x.image(2), 5);
        due.is("back(0)", x.back(0), 2);
        same("back(0)", state(x), before);
        due.is("tales stay", x.about(5), 1);
        due.is("the time stays", x.about(6), 3);
        due.is("the day of the tale has not been again", x.judge(1, 3), 1);
        x.run(4);
        due.is("back(2)", x.back(2), 5);
        due.is("chipped", x.thing(0, 5), 4);
        due.is("back(0) again", x.back(0), 2);
        same("back(0) again", state(x), before);
        due.is("since when, by the owners that are kept", x.since(0), 1);
        x.seed(99);
        x.image(1);
        x.seed(3);
        x.back(1);
        due.is("w is kept", x.about(8), 99);
    }

    private static int[] state(NoonSquare x) {
        int made = x.person(0, 1) + x.person(1, 1);
        return new int[] {x.thing(0, 0), x.thing(0, 1), x.thing(0, 2), x.thing(0, 3), x.thing(0, 5), x.thing(1, 0),
            x.thing(2, 0), x.thing(2, 3), x.person(0, 0), x.person(1, 0), x.person(0, 1), x.person(1, 1), x.about(4),
            x.about(8), x.about(10), x.since(0), made};
    }

    private static void same(String call, int[] got, int[] want) {
        for (int i = 0; i < want.length; i++) {
            due.is(call + ", part " + i, got[i], want[i]);
        }
    }

    private static void about() {
        NoonSquare x = Due.valley(TEXT + "late 100;");
        x.run(4);
        x.later(6);
        x.tale(1, 1, 1);
        x.feed(0, 0, 0, 0, 0);
        x.seed(-5);
        int[] want = {2, 1, 3, 2, 4, 1, 6, 20, -5, 12, 4};
        for (int what = 0; what < want.length; what++) {
            due.is("about(" + what + ")", x.about(what), want[what]);
        }
        due.is("about(11)", x.about(11), -1);
        due.is("about(-1)", x.about(-1), -1);
    }
}
