/** Promises 1 to 5: a new object, the tape, valleys and their faults. */
public final class TextTest {
    private static final Due due = new Due("TextTest");
    private static final String AB = "place a noon 1;place b noon 2;";
    private static final String P = AB + "person p at a craft 1 force 1 hard 1 stands ";

    public static void main(String[] args) {
        newObject();
        tape();
        valley();
        valleyLeaves();
        tokens();
        misplaced();
        tooMany();
        told();
        numbers();
        noPlace();
        rules();
        within();
        units();
        steps();
        again();
        due.end();
    }

    private static void newObject() {
        NoonSquare x = new NoonSquare();
        due.is("NONE", NoonSquare.NONE, -1);
        for (int what = 0; what <= 10; what++) {
            due.is("about(" + what + ") of a new object", x.about(what), what == 8 ? 1 : 0);
        }
        due.is("fault(0) ahead of any valley", x.fault(0), 0);
        due.is("fault(1) ahead of any valley", x.fault(1), -1);
        due.is("far(0, 0) of nothing", x.far(0, 0), -1);
        due.is("thing(0, 0) of nothing", x.thing(0, 0), -2);
        due.is("person(0, 0) of nothing", x.person(0, 0), -2);
        due.is("asks(0, 0) of nothing", x.asks(0, 0), -1000000);
        due.is("rest(2) of nothing", x.rest(2), 0);
        due.is("stands(0, 0) of nothing", x.stands(0, 0), -3);
        due.is("run(100) of nothing", x.run(100), 0);
        due.is("image(0) of nothing", x.image(0), 100);
        due.is("made(40, 4) of nothing", x.made(40, 4), 0);
    }

    private static void tape() {
        NoonSquare x = new NoonSquare();
        for (int i = 1; i <= 85; i++) {
            due.is("feed " + i, x.feed(i, i, i, i, i), i * 20);
        }
        due.is("feed beyond 1,700", x.feed(1, 1, 1, 1, 1), -1);
        due.is("about(7)", x.about(7), 1700);
        due.is("end(1701)", x.end(1701), -1);
        due.is("end(-1)", x.end(-1), -1);
        due.is("end(1681)", x.end(1681), 1681);
        due.is("feed of 20 where 19 fit", x.feed(1, 1, 1, 1, 1), -1);
        due.is("end(1680)", x.end(1680), 1680);
        due.is("feed of 20 where 20 fit", x.feed(1, 1, 1, 1, 1), 1700);
        due.is("end(0)", x.end(0), 0);
        due.is("end(1) of an empty tape", x.end(1), -1);
        due.is("about(7) of an empty tape", x.about(7), 0);
        x.feed(0x706c6163, 0x65206120, 0x6e6f6f6e, 0x2030353b, 0xff000000);
        due.is("end(16)", x.end(16), 16);
        due.is("bytes, the highest first", x.valley(), 0);
        due.is("the place told", x.about(0), 1);
        x.feed(0x706c6163, 0x65206120, 0x6e6f6f6e, 0x2030353b, 0xff000000);
        x.end(17);
        due.is("a byte of 255", x.valley(), -1);
        due.is("its fault", x.fault(0), 1);
        due.is("its place", x.fault(1), 16);
    }

    private static void valley() {
        due.fits("", 0);
        due.fits(" \n ", 0);
        due.fits(AB, 0);
        due.fits(P + "1;", 1);
        due.fits("place\na\nnoon\n5;place b noon59;road a b minutes1;thing s at a worth99 wear20 heavy99 food;", 0);
        due.fits("law near;late 0;place a noon 0;", 0);
        due.fits("late 100;law force;", 0);
        due.fits("place eeeeeeee noon 0007;", 0);
        due.fits("place one noon 7;place e noon 8;place valley noon 9;", 0);
        due.fits(AB + "thing a at a worth 0 wear 0 heavy 0;person a at a craft 0 force 0 hard 0 stands 9999;", 1);
        NoonSquare x = new NoonSquare();
        StringBuilder full = new StringBuilder(AB);
        while (full.length() < 1700) {
            full.append(' ');
        }
        Due.feed(x, full.toString());
        due.is("a text of 1,700 bytes", x.valley(), 0);
        due.is("its places", x.about(0), 2);
    }

    private static void valleyLeaves() {
        NoonSquare x = Due.valley(P + "1;thing t at a worth 9 wear 0 heavy 0;late 50;");
        x.run(3);
        x.tale(1, 0, 0);
        x.later(7);
        x.image(1);
        int w = x.about(8);
        Due.feed(x, "place a noon 60;");
        due.is("a valley with a fault", x.valley(), -1);
        due.is("the tape is empty then", x.about(7), 0);
        due.is("people stay", x.about(3), 1);
        due.is("days stay", x.about(4), 3);
        due.is("tales stay", x.about(5), 1);
        due.is("owners stay", x.thing(0, 0), 0);
        due.is("boxes stay", x.back(1), 3);
        due.is("fault(0)", x.fault(0), 4);
        Due.feed(x, "place b noon 6;place c noon 7;");
        due.is("a valley without people", x.valley(), 0);
        due.is("fault(0) of a good one", x.fault(0), 0);
        due.is("fault(1) of a good one", x.fault(1), -1);
        due.is("fault(2)", x.fault(2), -1);
        due.is("fault(-1)", x.fault(-1), -1);
        due.is("the tape is empty then, too", x.about(7), 0);
        due.is("no things", x.about(2), 0);
        due.is("no days", x.about(4), 0);
        due.is("no late days", x.about(10), 0);
        due.is("no tales", x.about(5), 0);
        due.is("boxes are empty", x.back(1), -1);
        due.is("w stays", x.about(8), w);
        due.is("the time stays", x.about(6), 7);
        due.is("no units", x.about(9), 0);
    }

    private static void tokens() {
        due.fault("$", 1, 0);
        due.fault(" \n#", 1, 2);
        due.fault("Place a noon 1;", 1, 0);
        due.fault("place a\tnoon 1;", 1, 7);
        due.fault("place a noon 1;\u0000", 1, 15);
        due.fault("place abcdefghi noon 1;", 1, 6);
        due.fault("place a noon 00001;", 1, 13);
        due.fault("place a noon 1b;", 1, 13);
        due.fault(AB + "thing t at a worth 5wear 1 heavy 1;", 1, 49);
        due.fault("place a noon 60$", 4, 13);
        due.fault("place a noon 5$", 1, 14);
        due.fault("place noon $", 2, 6);
    }

    private static void misplaced() {
        due.fault("a", 2, 0);
        due.fault("5", 2, 0);
        due.fault(";", 2, 0);
        due.fault("noon", 2, 0);
        due.fault("place", 2, 5);
        due.fault("place  \n", 2, 8);
        due.fault("placea noon 1;", 2, 0);
        due.fault("place 5", 2, 6);
        due.fault("place a 5", 2, 8);
        due.fault("place a noon b;", 2, 13);
        due.fault("place a noon 5", 2, 14);
        due.fault("place a noon 5 5;", 2, 15);
        due.fault(AB + "road a b noon 5;", 2, 39);
        due.fault(AB + "thing t a", 2, 38);
        due.fault(AB + "thing t at a worth 1 wear 1 heavy 1 food food;", 2, 71);
        due.fault(AB + "thing t at a wear 1", 2, 43);
        due.fault("law up;", 2, 4);
        due.fault("law near near;", 2, 9);
        due.fault("law lot;law lot;", 2, 8);
        due.fault("late 3;law lot;late 3;", 2, 15);
        due.fault("late;", 2, 4);
        String[] words = {"worth", "left", "heavy", "far", "mine", "held", "crowd", "day", "craft", "force", "noon",
            "or", "and", "not", "place", "road", "minutes", "thing", "at", "wear", "food", "person", "hard", "stands",
            "law", "near", "lot", "late"};
        for (String word : words) {
            due.fault("place " + word + " noon 1;", 2, 6);
            due.fault(AB + "thing " + word, 2, 36);
            due.fault(AB + "road a " + word, 2, 37);
        }
    }

    private static void tooMany() {
        StringBuilder places = new StringBuilder();
        for (char c = 'a'; c <= 'h'; c++) {
            places.append("place ").append(c).append(" noon 1;");
        }
        due.fits(places.toString(), 0);
        due.fault(places + " place", 2, places.length() + 1);
        due.fault(places + "place a", 2, places.length());
        StringBuilder roads = new StringBuilder(places);
        for (char c = 'b'; c <= 'h'; c++) {
            roads.append("road a ").append(c).append(" minutes 9;");
        }
        for (char c = 'c'; c <= 'h'; c++) {
            roads.append("road ").append(c).append(" b minutes 9;");
        }
        roads.append("road c d minutes 9;road c e minutes 9;road c f minutes 9;");
        due.fits(roads.toString(), 0);
        due.fault(roads + "road g h minutes 9;", 2, roads.length());
        StringBuilder things = new StringBuilder(AB);
        for (char c = 'a'; c <= 'j'; c++) {
            things.append("thing ").append(c).append(" at a worth 1 wear 1 heavy 1;");
        }
        due.fits(things.toString(), 0);
        due.fault(things + "thing k at a worth 1 wear 1 heavy 1;", 2, things.length());
        StringBuilder people = new StringBuilder(AB);
        for (char c = 'a'; c <= 'f'; c++) {
            people.append("person ").append(c).append(" at a craft 1 force 1 hard 1 stands 1;");
        }
        due.fits(people.toString(), 6);
        due.fault(people + "person g at a craft 1 force 1 hard 1 stands 1;", 2, people.length());
    }

    private static void told() {
        due.fault(AB + "place b noon 3;", 3, 36);
        due.fault(AB + "road a a", 3, 37);
        due.fault(AB + "road a b minutes 5;road a b", 3, 56);
        due.fault(AB + "road a b minutes 5;road b a", 3, 56);
        due.fault(AB + "thing t at a worth 1 wear 1 heavy 1;thing t", 3, 72);
        due.fault(P + "1;person p", 3, 83);
    }

    private static void numbers() {
        due.fault("place a noon 60;", 4, 13);
        due.fault(AB + "road a b minutes 0;", 4, 47);
        due.fault(AB + "road a b minutes 100;", 4, 47);
        due.fits(AB + "road a b minutes 99;", 0);
        due.fault(AB + "thing t at a worth 100;", 4, 49);
        due.fault(AB + "thing t at a worth 99 wear 21", 4, 57);
        due.fault(AB + "thing t at a worth 99 wear 20 heavy 100", 4, 66);
        due.fault(AB + "person p at a craft 10", 4, 50);
        due.fault(AB + "person p at a craft 9 force 100", 4, 58);
        due.fault(AB + "person p at a craft 9 force 99 hard 10", 4, 66);
        due.fits(AB + "person p at a craft 9 force 99 hard 9 stands 0;", 1);
        due.fault("late 101;", 4, 5);
        due.fault("late 9999;", 4, 5);
    }

    private static void noPlace() {
        due.fault("road a b minutes 5;", 5, 5);
        due.fault(AB + "road a c minutes 5;", 5, 37);
        due.fault(AB + "thing t at c", 5, 41);
        due.fault(AB + "person p at t", 5, 42);
        due.fault("thing t at a worth 1 wear 1 heavy 1;place a noon 1;", 5, 11);
    }

    private static void rules() {
        int e = P.length();
        due.fits(P + "worth+left-heavy*far<mine+held and crowd>day or not craft=force*noon;", 1);
        due.fault(P + ";", 2, e);
        due.fault(P + "1", 2, e + 1);
        due.fault(P + "1<1<1;", 2, e + 3);
        due.fault(P + "1=1>1;", 2, e + 3);
        due.fault(P + "hard;", 2, e);
        due.fault(P + "p;", 2, e);
        due.fault(P + "-1;", 2, e);
        due.fault(P + "1+not 1;", 2, e + 2);
        due.fault(P + "1<not 1;", 2, e + 2);
        due.fault(P + "1 1;", 2, e + 2);
        due.fault(P + "1 and;", 2, e + 5);
        due.fault(P + "1 or and 1;", 2, e + 5);
        due.fault(P + "(1;", 2, e + 2);
        due.fault(P + "();", 2, e + 1);
        due.fault(P + "1);", 2, e + 1);
        due.fault(P + "1 or;", 2, e + 4);
        due.fault(P + "1<;", 2, e + 2);
        due.fault(P + "not;", 2, e + 3);
        due.fault(P + "1-;", 2, e + 2);
        due.fault(P + "1*;", 2, e + 2);
        due.fault(P + "(;", 2, e + 1);
        due.fault(P + "or;", 2, e);
        due.fault(P + "1and 1;", 1, e);
        due.fault(P + "10000;", 1, e);
        due.fits(P + "(1)and(1)or not(1);", 1);
    }

    private static void within() {
        int e = P.length();
        due.fits(P + "(((((((1)))))));", 1);
        due.fault(P + "((((((((1))))))));", 2, e + 7);
        due.fits(P + "not not not not not not not 1;", 1);
        due.fault(P + "not not not not not not not not 1;", 2, e + 28);
        due.fits(P + "not(not(not(not 1)));", 1);
        due.fault(P + "not(not(not(not (1))));", 2, e + 16);
        due.fits(P + "not not not(((1+(1))))+((((1))));", 1);
        due.fault(P + "not not not(1)+(((((1)))));", 2, e + 19);
        due.fault(P + "((((((not (1)))))));", 2, e + 10);
        due.fault(P + "(((((((not 1)))))));", 2, e + 7);
        due.fits(P + "((((((not 1))))))and not not not not not not not 1;", 1);
    }

    private static void units() {
        StringBuilder sum = new StringBuilder("1");
        for (int i = 1; i < 79; i++) {
            sum.append("+1");
        }
        int e = P.length();
        due.fits(P + sum + "+1;", 1);
        due.fault(P + sum + "+1+1;", 2, e + 160);
        due.fault(P + sum + "+(1);", 2, e + 159);
        due.fault(P + sum + "+1;person q at a craft 1 force 1 hard 1 stands far;", 2, e + 160 + 44);
        NoonSquare x = Due.valley(P + "(1+(far))*2;person q at a craft 1 force 1 hard 1 stands not mine;");
        due.is("about(9)", x.about(9), 6);
    }

    /** As many steps as a text has room for: a not seven times ahead of each unit. */
    private static void steps() {
        StringBuilder e = new StringBuilder("0");
        for (int i = 0; i < 44; i++) {
            e.append(" or not not not not not not not 1");
        }
        NoonSquare x = Due.valley(P + e + " or 1;thing t at a worth 1 wear 0 heavy 0;");
        due.is("the last unit counts", x.asks(0, 0), 1);
        x = Due.valley(P + e + ";thing t at a worth 1 wear 0 heavy 0;");
        due.is("none is above 0", x.asks(0, 0), 0);
        e.setLength(0);
        for (int i = 0; i < 40; i++) {
            e.append(i == 0 ? "" : "+").append("(not not not not not not 0)");
        }
        x = Due.valley(P + e + ";thing t at a worth 1 wear 0 heavy 0;");
        due.is("80 units with not", x.about(9), 80);
        due.is("not an even number of times", x.asks(0, 0), 0);
    }

    private static void again() {
        NoonSquare x = new NoonSquare();
        StringBuilder e = new StringBuilder("7");
        for (int i = 1; i < 80; i++) {
            e.append("*1");
        }
        for (int i = 0; i < 12; i++) {
            Due.feed(x, "law force;late 5;" + AB + "road a b minutes 5;person p at a craft 1 force 1 hard 1 stands " + e
                + ";thing t at a worth 1 wear 0 heavy 0;");
            due.is("the same valley again", x.valley(), 1);
            due.is("its roads", x.about(1), 1);
            due.is("its units", x.about(9), 80);
            due.is("its rule", x.asks(0, 0), 7);
        }
    }
}
