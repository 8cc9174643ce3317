import java.util.List;

/** The edges of texts and of promises 1 to 5: a test for each sentence of the document, which it quotes. */
public final class EdgesOfTextTest {
    private static final Due due = new Due("EdgesOfTextTest");
    private static final String AB = "place a noon 1;place b noon 2;";
    private static final String P = AB + "person p at a craft 1 force 1 hard 1 stands ";
    private static final String[] OWN_WORDS = {"worth", "left", "heavy", "far", "mine", "held", "crowd", "day", "craft",
        "force", "noon", "or", "and", "not", "place", "road", "minutes", "thing", "at", "wear", "food", "person", "hard",
        "stands", "law", "near", "lot", "late"};

    public static void main(String[] args) {
        anEmptyValley();
        textOf1700Bytes();
        lines();
        eithers();
        boths();
        ones();
        sums();
        terms();
        units();
        everyByte();
        tokens();
        blanks();
        longTokens();
        lettersBehindNumbers();
        names();
        places();
        roads();
        things();
        people();
        lawAndLate();
        eightyUnits();
        withinSix();
        firstFault();
        misplaced();
        toldAlready();
        numbers();
        noPlace();
        feed();
        feedRefused();
        end();
        endRefused();
        valley();
        toldAgain();
        valleyRefused();
        fault();
        faultOfAnother();
        due.end();
    }

    private static void anEmptyValley() {
        due.quote("An empty VALLEY.");
        NoonSquare x = new NoonSquare();
        int[] about = {0, 0, 0, 0, 0, 0, 0, 0, 1, 0, 0};
        for (int what = 0; what < about.length; what++) {
            due.is("about(" + what + ")", x.about(what), about[what]);
        }
        due.is("thing(0, 0)", x.thing(0, 0), -2);
        due.is("person(0, 0)", x.person(0, 0), -2);
        due.is("far(0, 0)", x.far(0, 0), -1);
        due.no("give(0, -1)", x.give(0, -1));
        due.is("chip(0, 0)", x.chip(0, 0), -1);
        due.is("asks(0, 0)", x.asks(0, 0), -1000000);
        due.is("chance(0, -1, 0)", x.chance(0, -1, 0), -1);
        due.is("rest(0): the row of nobody's choices", x.rest(0), 1);
        due.is("rest(1)", x.rest(1), 0);
        due.is("rest(2)", x.rest(2), 0);
        due.is("stands(0, 0)", x.stands(0, 0), -3);
        due.is("made(40, 0)", x.made(40, 0), 0);
        due.is("law(40)", x.law(40), 0);
        due.is("used(0, 1, 0, 0)", x.used(0, 1, 0, 0), -1);
        due.is("keeps(0)", x.keeps(0), -1);
        due.is("lift(0, 1)", x.lift(0, 1), -1);
        due.is("tour(0)", x.tour(0), -1);
        due.is("since(0)", x.since(0), -1);
        due.is("tale(1, 0, -1)", x.tale(1, 0, -1), -1);
        due.no("untell(0)", x.untell(0));
        due.is("judge(0, 0)", x.judge(0, 0), 0);
        due.is("back(0)", x.back(0), -1);
        due.is("end(0)", x.end(0), 0);
        due.is("valley() of no bytes", x.valley(), 0);
        due.is("run(1)", x.run(1), 0);
        due.is("image(0)", x.image(0), 1);
    }

    private static void textOf1700Bytes() {
        due.quote("A VALLEY is a text of at most 1,700 bytes (empty at first): valley = {line}.");
        due.fits("", 0);
        due.fits(Lines.place("a", 5), 0);
        String full = AB + Lines.times(1700 - 2 * AB.length(), " ");
        NoonSquare x = Due.valley(full + "place c noon 1;place d noon 2;");
        due.is("places of a text of 1,700 bytes", x.about(0), 4);
        x = Due.valley(full);
        due.is("places of its first 1,670", x.about(0), 2);
        Due.feed(x, full + "place c noon 1;place d noon 2;");
        due.is("1,700 bytes", x.about(7), 1700);
        due.is("and no more", x.feed(0, 0, 0, 0, 0), -1);
    }

    /** A line as it should be, behind two places; each of its tokens left out, and another in its stead. */
    private static void line(String line) {
        String[] tokens = line.split(" ");
        String ahead = AB;
        due.fits(AB + line, line.startsWith("person") ? 1 : 0);
        for (int i = 0; i < tokens.length; i++) {
            due.marked(2, ahead + "^) " + line);
            boolean isWord = Character.isLetter(tokens[i].charAt(0)) && tokens[i].length() > 1;
            if (isWord && !tokens[i].equals("food")) {
                due.marked(2, ahead + "^zz");
            }
            if (i > 0) {
                due.marked(2, ahead + "^");
                due.marked(2, ahead + "^" + tokens[0]);
            }
            ahead += tokens[i] + " ";
        }
    }

    private static void lines() {
        due.quote("line = place NAME noon N ; | road NAME NAME minutes N ; | thing NAME at NAME worth N wear N heavy N [food] ;"
            + " | person NAME at NAME craft N force N hard N stands e ; | law (near | force | lot) ; | late N ;.");
        line("place q noon 5 ;");
        line("road a b minutes 5 ;");
        line("thing q at a worth 5 wear 5 heavy 5 ;");
        line("thing q at a worth 5 wear 5 heavy 5 food ;");
        line("person q at a craft 5 force 5 hard 5 stands 5 ;");
        line("law near ;");
        line("law force ;");
        line("law lot ;");
        line("late 5 ;");
        due.marked(2, AB + "thing q at a worth 5 wear 5 heavy 5 food ^food;");
        due.marked(2, AB + "thing q at a worth 5 wear 5 ^food heavy 5;");
        due.marked(2, "place a noon 5;^;");
        due.marked(2, "law near ^force;");
        for (String word : OWN_WORDS) {
            boolean begins = List.of("place", "road", "thing", "person", "law", "late").contains(word);
            due.marked(2, begins ? word + "^" : "^" + word);
        }
    }

    private static void eithers() {
        due.quote("e = both {or both}.");
        due.fits(P + "1;", 1);
        due.fits(P + "1 or 1;", 1);
        due.fits(P + "1 or 1 and 1 or 1;", 1);
        due.marked(2, P + "^;");
        due.marked(2, P + "^or 1;");
        due.marked(2, P + "1 or^;");
        due.marked(2, P + "1 or ^or 1;");
        due.marked(2, P + "1 ^1;");
    }

    private static void boths() {
        due.quote("both = one {and one}.");
        due.fits(P + "1 and 1;", 1);
        due.fits(P + "1 and not 1 and 1;", 1);
        due.marked(2, P + "^and 1;");
        due.marked(2, P + "1 and^;");
        due.marked(2, P + "1 and ^and 1;");
        due.marked(2, P + "1 and ^or 1;");
    }

    private static void ones() {
        due.quote("one = not one | sum [(< | > | =) sum].");
        for (String sign : new String[] {"<", ">", "="}) {
            due.fits(P + "1" + sign + "1;", 1);
            due.fits(P + "not 1+1" + sign + "1*1;", 1);
            due.marked(2, P + "1" + sign + "^;");
            due.marked(2, P + "^" + sign + "1;");
            due.marked(2, P + "1" + sign + "1^<1;");
            due.marked(2, P + "1" + sign + "^=1;");
            due.marked(2, P + "1" + sign + "^not 1;");
        }
        due.fits(P + "not not 1;", 1);
        due.marked(2, P + "not^;");
        due.marked(2, P + "1 ^not 1;");
        due.marked(2, P + "not ^and 1;");
    }

    private static void sums() {
        due.quote("sum = term {(+ | -) term}.");
        due.fits(P + "1+1;", 1);
        due.fits(P + "1-1+1-1;", 1);
        for (String sign : new String[] {"+", "-"}) {
            due.marked(2, P + "^" + sign + "1;");
            due.marked(2, P + "1" + sign + "^;");
            due.marked(2, P + "1" + sign + "^-1;");
            due.marked(2, P + "1" + sign + "^not 1;");
        }
    }

    private static void terms() {
        due.quote("term = unit {* unit}.");
        due.fits(P + "1*1;", 1);
        due.fits(P + "1*1*(1)*far;", 1);
        due.marked(2, P + "^*1;");
        due.marked(2, P + "1*^;");
        due.marked(2, P + "1*^*1;");
        due.marked(2, P + "1*^-1;");
    }

    private static void units() {
        due.quote("unit = N | worth | left | heavy | far | mine | held | crowd | day | craft | force | noon | ( e ).");
        for (int i = 0; i < OWN_WORDS.length; i++) {
            if (i < 11) {
                due.fits(P + OWN_WORDS[i] + ";", 1);
            } else if (!OWN_WORDS[i].equals("not")) {
                due.marked(2, P + "^" + OWN_WORDS[i] + ";");
            }
        }
        due.fits(P + "0;", 1);
        due.fits(P + "9999;", 1);
        due.fits(P + "(1 or 1);", 1);
        due.marked(2, P + "^p;");
        due.marked(2, P + "^a;");
        due.marked(2, P + "(^);");
        due.marked(2, P + "(1^;");
        due.marked(2, P + "(^;");
        due.marked(2, P + "(1+^;");
        due.marked(2, P + "(1 or^;");
        due.marked(2, P + "((1)+^);");
        due.marked(2, P + "(1^");
        due.marked(2, P + "1^);");
        due.marked(2, P + "(1)^(1);");
    }

    private static void tokens() {
        due.quote("TOKENS: words (a .. z, 8 at most), N (1 to 4 digits), signs ; ( ) < > = + - *;");
        for (int size = 1; size <= 20; size++) {
            String word = Lines.times(size, "q");
            if (size <= 8) {
                due.fits("place " + word + " noon 5;", 0);
                due.marked(2, "^" + word);
            } else {
                due.marked(1, "place ^" + word + " noon 5;");
                due.marked(1, "^" + word);
            }
            String number = Lines.times(size - 1, "0") + "7";
            if (size <= 4) {
                due.fits("place a noon " + number + ";", 0);
            } else {
                due.marked(1, "place a noon ^" + number + ";");
            }
        }
        due.fits("place azazazaz noon 5;place zazazaza noon 5;", 0);
        due.fits(P + "1234*5678+9090;", 1);
        due.marked(1, P + "^12345;");
        due.marked(1, "place q^Q noon 5;");
        due.marked(1, "place q^_ noon 5;");
    }

    private static void blanks() {
        due.quote("blanks (32, 10) part them or not;");
        due.fits("place a noon5;law lot;late5;", 0);
        due.fits("\n place \n a\nnoon  5\n\n; ", 0);
        due.fits(P + "(1)or(1)and not(1)<1;", 1);
        due.fits(P + " ( 1 ) or( 1 )and\nnot ( 1 ) < 1 ;", 1);
        due.marked(1, "place a^\tnoon 5;");
        due.marked(1, "place a^\r\nnoon 5;");
        due.marked(1, "place a noon 5;^\u00a0");
    }

    private static void longTokens() {
        due.quote("each is as long as can be;");
        due.marked(2, "^placea noon 5;");
        due.marked(2, "place a ^noons 5;");
        due.marked(2, P + "1 ^o r 1;");
        due.fits("place aa noon 5;place a noon 5;", 0);
        due.is("55 is one number", Due.valley(AB + "thing t at a worth55 wear1 heavy1;").thing(0, 5), 55);
        due.marked(4, "place a noon ^555;");
    }

    private static void lettersBehindNumbers() {
        due.quote("no letter directly behind an N.");
        due.fits("place a noon5;", 0);
        due.fits(P + "5 or 5;", 1);
        due.marked(1, "place a noon ^5a;");
        due.marked(1, P + "^5or 5;");
        due.marked(1, P + "5 or ^5555z;");
        due.marked(2, "place a noon 5 ^a;");
    }

    private static void everyByte() {
        due.quote("TOKENS: words (a .. z, 8 at most), N (1 to 4 digits), signs ; ( ) < > = + - *; blanks (32, 10)");
        for (int b = 0; b < 256; b++) {
            String text = String.valueOf((char) b);
            boolean isToken = b >= 'a' && b <= 'z' || b >= '0' && b <= '9' || ";()<>=+-*".indexOf(b) >= 0;
            if (b == 32 || b == 10) {
                due.fits(text, 0);
            } else {
                due.fault(text, isToken ? 2 : 1, 0);
            }
        }
    }

    private static void names() {
        due.quote("Words that stand for themselves here are no NAMES.");
        for (String word : OWN_WORDS) {
            due.marked(2, "place ^" + word + " noon 5;");
            due.marked(2, AB + "road ^" + word + " a minutes 5;");
            due.marked(2, AB + "road a ^" + word + " minutes 5;");
            due.marked(2, AB + "thing ^" + word + " at a worth 1 wear 1 heavy 1;");
            due.marked(2, AB + "thing t at ^" + word + " worth 1 wear 1 heavy 1;");
            due.marked(2, AB + "person ^" + word + " at a craft 1 force 1 hard 1 stands 1;");
            due.marked(2, AB + "person p at ^" + word + " craft 1 force 1 hard 1 stands 1;");
            due.fits("place " + word + "q noon 5;", 0);
            due.fits("place " + word.substring(1) + "zz noon 5;", 0);
        }
        for (String word : new String[] {"e", "one", "both", "sum", "term", "unit", "line", "valley", "name", "n"}) {
            due.fits("place " + word + " noon 5;" + Lines.thing(word, word, 1, 1, 1) + Lines.person(word, word, 1, 1, 1, "1"), 1);
        }
    }

    private static void places() {
        due.quote("At most 8 PLACES (noon 0 .. 59),");
        for (int count = 0; count <= 8; count++) {
            due.is(count + " places", Due.valley(Lines.places(count, 59)).about(0), count);
        }
        due.marked(2, Lines.places(8, 59) + "^place i noon 5;");
        due.fits(Lines.place("a", 0), 0);
        due.fits(Lines.place("a", 59), 0);
        due.marked(4, "place a noon ^60;");
        due.marked(2, "place a noon ^-1;");
    }

    /** As many roads of eight places as asked for, of 28 that there could be. */
    private static String someRoads(int count) {
        StringBuilder out = new StringBuilder(Lines.places(8, 1));
        int told = 0;
        for (int a = 0; a < 8; a++) {
            for (int b = a + 1; b < 8 && told < count; b++, told++) {
                out.append(Lines.road(Lines.name(b), Lines.name(a), 1 + told));
            }
        }
        return out.toString();
    }

    private static void roads() {
        due.quote("16 roads (of two unlike PLACES told ahead, each two once; minutes 1 .. 99),");
        for (int count = 0; count <= 16; count++) {
            due.is(count + " roads", Due.valley(someRoads(count)).about(1), count);
        }
        due.marked(2, someRoads(16) + "^road g h minutes 5;");
        due.marked(5, "road ^a b minutes 5;" + AB);
        due.marked(5, "place a noon 1;road a ^b minutes 5;place b noon 1;");
        due.marked(3, AB + "road b ^b minutes 5;");
        due.marked(3, AB + "road a b minutes 5;road a ^b minutes 6;");
        due.marked(3, AB + "road a b minutes 5;road b ^a minutes 6;");
        due.is("one minute", Due.valley(AB + Lines.road("a", "b", 1)).far(0, 1), 1);
        due.is("99 minutes", Due.valley(AB + Lines.road("a", "b", 99)).far(0, 1), 99);
        due.marked(4, AB + "road a b minutes ^0;");
        due.marked(4, AB + "road a b minutes ^100;");
    }

    private static void things() {
        due.quote("10 THINGS (at a PLACE told ahead; worth, heavy 0 .. 99, wear 0 .. 20),");
        for (int count = 0; count <= 10; count++) {
            due.is(count + " things", Due.valley(AB + Lines.things(count, 1)).about(2), count);
        }
        due.marked(2, AB + Lines.things(10, 1) + "^thing k at a worth 1 wear 1 heavy 1;");
        due.marked(5, "thing t at ^a worth 1 wear 1 heavy 1;" + AB);
        due.fits(AB + Lines.thing("t", "a", 0, 0, 0), 0);
        due.fits(AB + Lines.thing("t", "b", 99, 20, 99), 0);
        due.marked(4, AB + "thing t at a worth ^100 wear 20 heavy 99;");
        due.marked(4, AB + "thing t at a worth 99 wear ^21 heavy 99;");
        due.marked(4, AB + "thing t at a worth 99 wear 20 heavy ^100;");
    }

    private static void people() {
        due.quote("6 PEOPLE (at a PLACE told ahead; craft, hard 0 .. 9, force 0 .. 99), numbered as told;");
        for (int count = 0; count <= 6; count++) {
            due.fits(AB + Lines.people(count, "1"), count);
        }
        due.marked(2, AB + Lines.people(6, "1") + "^person g at a craft 1 force 1 hard 1 stands 1;");
        due.marked(5, "person p at ^a craft 1 force 1 hard 1 stands 1;" + AB);
        due.fits(AB + Lines.person("p", "a", 0, 0, 0, "1"), 1);
        due.fits(AB + Lines.person("p", "b", 9, 99, 9, "1"), 1);
        due.marked(4, AB + "person p at a craft ^10 force 99 hard 9 stands 1;");
        due.marked(4, AB + "person p at a craft 9 force ^100 hard 9 stands 1;");
        due.marked(4, AB + "person p at a craft 9 force 99 hard ^10 stands 1;");
        NoonSquare x = Due.valley(Lines.place("z", 1) + Lines.person("q", "z", 1, 1, 1, "1") + Lines.place("y", 1)
            + Lines.thing("t", "y", 7, 1, 1) + Lines.person("p", "y", 1, 1, 1, "2") + Lines.thing("s", "z", 8, 1, 1));
        due.is("the place of the first person", x.person(0, 0), 0);
        due.is("the place of the second", x.person(1, 0), 1);
        due.is("the rule of the first", x.asks(0, 0), 1);
        due.is("the rule of the second", x.asks(1, 0), 2);
        due.is("worth of the first thing", x.thing(0, 5), 7);
        due.is("worth of the second", x.thing(1, 5), 8);
        due.is("its place", x.thing(1, 4), 0);
    }

    /** Who has the one thing behind one day, if the text's other lines are these. */
    private static int owner(String lines) {
        NoonSquare x = Due.valley(lines + Lines.place("a", 9) + Lines.place("b", 9) + Lines.road("a", "b", 7)
            + Lines.thing("t", "a", 1, 0, 0) + Lines.person("x", "b", 0, 50, 0, "1") + Lines.person("y", "a", 0, 10, 0, "1")
            + Lines.person("z", "b", 0, 90, 0, "1"));
        x.run(1);
        return x.thing(0, 0);
    }

    private static void lawAndLate() {
        due.quote("law (near if it is not told), late (0 .. 100; 0) once each;");
        due.is("no law: near", owner(""), 1);
        due.is("law near", owner("law near;"), 1);
        due.is("law force", owner("law force;"), 2);
        int drawn = (1103527590 >>> 16) % 3;
        due.is("law lot", owner("law lot;"), drawn);
        due.fits("late 0;", 0);
        due.fits("late 100;", 0);
        due.marked(4, "late ^101;");
        NoonSquare x = Due.valley(AB);
        x.run(9);
        due.is("late is not told: never", x.about(10), 0);
        due.is("and nothing is drawn", x.about(8), 1);
        due.marked(2, "law near;^law near;");
        due.marked(2, "law lot;late 5;^law force;");
        due.marked(2, "late 0;^late 0;");
        due.marked(2, "late 0;law near;^late 7;");
    }

    private static void eightyUnits() {
        due.quote("80 units in all;");
        String most = "1" + Lines.times(78, "+1");
        due.is("no unit", Due.valley(AB).about(9), 0);
        due.is("one unit", Due.valley(P + "1;").about(9), 1);
        due.is("a unit in a unit", Due.valley(P + "(1);").about(9), 2);
        due.is("80 units", Due.valley(P + most + "+1;").about(9), 80);
        due.is("all of them count", Due.valley(P + most + "+5;" + Lines.thing("t", "a", 1, 0, 0)).asks(0, 0), 84);
        due.is("80 units of two people", Due.valley(P + most + ";" + Lines.person("q", "a", 1, 1, 1, "far")).about(9), 80);
        due.is("80 with (", Due.valley(P + "(" + most + ");").about(9), 80);
        due.marked(2, P + most + "+1+^1;");
        due.marked(2, P + most + "+1*^far;");
        due.marked(2, P + most + "+1+^(1);");
        due.marked(2, P + most + "+(^1);");
        due.marked(2, P + most + "+1 and not ^1;");
        due.marked(2, P + most + "+1;person q at a craft 1 force 1 hard 1 stands ^1;");
    }

    private static void withinSix() {
        due.quote("a unit ( e ), or a one behind not, within 6 others at most.");
        for (int nots = 0; nots <= 7; nots++) {
            String ahead = Lines.times(nots, "not ") + Lines.times(7 - nots, "(");
            due.fits(P + ahead + "1" + Lines.times(7 - nots, ")") + ";", 1);
            due.marked(2, P + ahead + "^(1" + Lines.times(8 - nots, ")") + ";");
            String open = Lines.times(7 - nots, "(") + Lines.times(nots, "not ");
            due.fits(P + open + "1" + Lines.times(7 - nots, ")") + ";", 1);
            due.marked(2, P + open + "^not 1" + Lines.times(7 - nots, ")") + ";");
        }
        String seven = "(((((((1)))))))";
        due.fits(P + seven + "+" + seven + "*" + seven + "<" + seven + " or " + seven + ";", 1);
        due.fits(P + "(((((((1+1*1<1 and 1)))))));", 1);
        due.marked(2, P + "(((((((1+^(1))))))));");
        due.marked(2, P + "(((((((1 and ^not 1)))))));");
    }

    private static void firstFault() {
        due.quote("FAULTS, the first by its place (bytes from 0; the end: the text's length), at one place the least: 1 no TOKEN;");
        due.marked(1, "^$");
        due.marked(1, "^$ place noon $");
        due.marked(2, "^noon $");
        due.marked(2, "place ^noon 60;$");
        due.marked(4, "place a noon ^60$");
        due.marked(4, "place a noon ^60;place a noon 60;");
        due.marked(3, AB + "place ^a noon 60;");
        due.marked(5, AB + "thing t at ^c worth 100;");
        due.marked(2, "place^");
        due.marked(2, "place a noon 5^");
        due.marked(2, "place a noon 5 \n ^");
        due.marked(2, "place" + Lines.times(1695, " ") + "^");
        due.marked(1, Lines.times(1699, " ") + "^$");
        due.marked(1, "place ^$ noon 5;");
        due.marked(1, "place a noon ^99999;");
        due.marked(1, "place a noon ^60a;");
        due.marked(1, P + Lines.times(80, "1+") + "^$;");
        due.marked(1, P + "(((((((^$)))))));");
        due.marked(1, "law ^%;");
        due.marked(2, "law ^lo%;");
    }

    private static void misplaced() {
        due.quote("2 one that can't stand there (one of a sort too many, law, late a second time: at the line's first word;"
            + " an 81st unit, what is within 7 others: at its first TOKEN, or the not);");
        due.marked(2, Lines.places(8, 5) + "^place");
        due.marked(2, Lines.places(8, 5) + "^place a noon 60;");
        due.marked(2, Lines.places(8, 5) + "^place $");
        due.marked(2, someRoads(16) + "^road a a");
        due.marked(2, someRoads(16) + "^road");
        due.marked(2, AB + Lines.things(10, 5) + "^thing a");
        due.marked(2, AB + Lines.people(6, "1") + "^person a");
        due.marked(2, "law lot;^law up;");
        due.marked(2, "late 5;^late 101;");
        due.marked(2, P + Lines.times(80, "1+") + "^(1);");
        due.marked(2, P + Lines.times(79, "1+") + "(^(1));");
        due.marked(2, P + "(((((((^(1))))))));");
        due.marked(2, P + "not not not not not not not ^not 1;");
        due.marked(2, P + "not not not not not not not ^(1);");
        due.marked(2, AB + Lines.things(9, 5) + Lines.thing("j", "a", 1, 1, 1) + "^k");
    }

    private static void toldAlready() {
        due.quote("3 a NAME told already (of its sort); the second PLACE of a road like the first, or both joined already"
            + " (either way; at the second);");
        due.marked(3, AB + "place ^a noon 5;");
        due.marked(3, AB + "place ^b");
        due.marked(3, AB + Lines.thing("t", "a", 1, 1, 1) + "thing ^t at b worth 1 wear 1 heavy 1;");
        due.marked(3, P + "1;person ^p at b craft 1 force 1 hard 1 stands 1;");
        due.fits(AB + Lines.thing("a", "a", 1, 1, 1) + Lines.thing("p", "a", 1, 1, 1) + Lines.person("a", "a", 1, 1, 1, "1")
            + Lines.person("p", "a", 1, 1, 1, "1") + Lines.place("p", 5), 2);
        due.fits(AB + Lines.place("aa", 5) + Lines.place("aaaaaaaa", 5) + Lines.place("aaaaaaab", 5), 0);
        due.marked(3, AB + "road a ^a");
        due.marked(3, AB + Lines.road("a", "b", 5) + "road a ^b");
        due.marked(3, AB + Lines.road("a", "b", 5) + "road b ^a");
        due.fits(AB + Lines.place("c", 5) + Lines.road("a", "b", 5) + Lines.road("b", "c", 5) + Lines.road("c", "a", 5), 0);
    }

    private static void numbers() {
        due.quote("4 a number that can't be;");
        due.marked(4, "place a noon ^60;");
        due.marked(4, "place a noon ^9999");
        due.marked(4, "place a noon ^0060;");
        due.fits("place a noon 0059;", 0);
        due.marked(4, AB + "road a b minutes ^0000;");
        due.marked(4, AB + "road a b minutes ^100;");
        due.marked(4, AB + "thing t at a worth ^100");
        due.marked(4, AB + "thing t at a worth 1 wear ^21");
        due.marked(4, AB + "thing t at a worth 1 wear 1 heavy ^100");
        due.marked(4, AB + "person t at a craft ^10");
        due.marked(4, AB + "person t at a craft 1 force ^100");
        due.marked(4, AB + "person t at a craft 1 force 1 hard ^10");
        due.marked(4, "late ^101");
        due.fits(P + "9999;", 1);
    }

    private static void noPlace() {
        due.quote("5 a NAME that no PLACE has (told ahead).");
        due.marked(5, AB + "road ^c a minutes 5;");
        due.marked(5, AB + "road a ^c minutes 5;");
        due.marked(5, AB + "road ^c d minutes 5;");
        due.marked(5, AB + "thing t at ^c worth 1 wear 1 heavy 1;place c noon 5;");
        due.marked(5, AB + "person p at ^c craft 1 force 1 hard 1 stands 1;place c noon 5;");
        due.marked(5, AB + Lines.thing("t", "a", 1, 1, 1) + "thing s at ^t");
        due.marked(5, P + "1;person q at ^p");
        due.marked(5, AB + "road a ^bb");
    }

    private static void feed() {
        due.quote("Twenty bytes come behind those on the TAPE, of each number the highest first: how many there are;");
        NoonSquare x = new NoonSquare();
        due.is("the first twenty", x.feed(0x706c6163, 0x65206120, 0x6e6f6f6e, 0x2035393b, 0x706c6163), 20);
        due.is("twenty more", x.feed(0x65206220, 0x6e6f6f6e, 0x2031323b, 0x80ff0001, 0x7fffffff), 40);
        due.is("end(32)", x.end(32), 32);
        due.is("behind those that stay", x.feed(0x0a207468, 0x696e6720, 0x74206174, 0x20622077, 0x6f727468), 52);
        due.is("and so on", x.feed(0x20392077, 0x65617220, 0x30206865, 0x61767920, 0x303b2424), 72);
        due.is("end(70)", x.end(70), 70);
        due.is("the text is as it was fed", x.valley(), 0);
        due.is("places", x.about(0), 2);
        due.is("things", x.about(2), 1);
        due.is("its place", x.thing(0, 4), 1);
        due.is("its worth", x.thing(0, 5), 9);
        x.feed(0x20202020, 0x20202020, 0x20202020, 0x20202020, 0x20202080);
        x.valley();
        due.is("the lowest comes last, above 127, too", x.fault(1), 19);
        x.feed(0xff202020, 0x20202020, 0x20202020, 0x20202020, 0x20202020);
        x.valley();
        due.is("the highest comes first, above 127, too", x.fault(1), 0);
    }

    private static NoonSquare withTape(int bytes) {
        NoonSquare x = Due.valley(AB + Lines.thing("t", "a", 1, 0, 0));
        Due.feed(x, "place c noon 3;" + Lines.times(bytes - 15, " "));
        return x;
    }

    private static void feedRefused() {
        due.quote("NONE, and nothing comes, if there would be more than 1,700.");
        due.is("1,680 and twenty", withTape(1680).feed(0, 0, 0, 0, 0), 1700);
        due.refused("1,681 and twenty", () -> withTape(1681), x -> x.feed(0x24242424, 0, 0, 0, 0), -1);
        due.refused("1,699 and twenty", () -> withTape(1699), x -> x.feed(0x24242424, 0, 0, 0, 0), -1);
        due.refused("1,700 and twenty", () -> withTape(1700), x -> x.feed(0x24242424, 0, 0, 0, 0), -1);
        NoonSquare x = withTape(1700);
        x.feed(1, 1, 1, 1, 1);
        due.is("there are 1,700 still", x.about(7), 1700);
    }

    private static void end() {
        due.quote("The TAPE has its first n bytes: n;");
        NoonSquare x = new NoonSquare();
        due.is("end(0) of none", x.end(0), 0);
        Due.feed(x, "place a noon 5;law $");
        due.is("end of all", x.end(20), 20);
        due.is("end of all but one", x.end(19), 19);
        due.is("about(7)", x.about(7), 19);
        due.is("end(15)", x.end(15), 15);
        due.is("the first fifteen", x.valley(), 0);
        due.is("are a place", x.about(0), 1);
        Due.feed(x, "$place a noon 5;");
        due.is("end(1)", x.end(1), 1);
        x.valley();
        due.is("the first one is no token", x.fault(0), 1);
        Due.feed(x, "$");
        due.is("end(0)", x.end(0), 0);
        due.is("about(7) of none", x.about(7), 0);
        due.is("none are no fault", x.valley(), 0);
    }

    private static void endRefused() {
        due.quote("NONE, doing nothing, if it has not so many, or n is below 0.");
        due.refused("end(21) of 20", State::lived, x -> x.end(21), -1);
        due.refused("end(-1)", State::lived, x -> x.end(-1), -1);
        due.refused("end(the most)", State::lived, x -> x.end(Integer.MAX_VALUE), -1);
        due.refused("end(the least)", State::lived, x -> x.end(Integer.MIN_VALUE), -1);
        NoonSquare x = withTape(1700);
        due.is("end(1701)", x.end(1701), -1);
        due.is("end(1700)", x.end(1700), 1700);
        x.end(7);
        due.is("what was cut off is gone", x.end(8), -1);
        x.end(0);
        due.is("end(1) of none", x.end(1), -1);
    }

    private static void valley() {
        due.quote("The TAPE (empty then) is the VALLEY (no DAYS, TALES are none, BOXES are empty then; w, the TIME stay):"
            + " how many PEOPLE;");
        NoonSquare x = State.lived();
        int w = x.about(8);
        x.end(15);
        due.is("a valley of no people", x.valley(), 0);
        due.is("the tape", x.about(7), 0);
        due.is("places", x.about(0), 1);
        due.is("roads", x.about(1), 0);
        due.is("things", x.about(2), 0);
        due.is("people", x.about(3), 0);
        due.is("days", x.about(4), 0);
        due.is("tales", x.about(5), 0);
        due.is("the time", x.about(6), 5);
        due.is("w", x.about(8), w);
        due.is("units", x.about(9), 0);
        due.is("late days", x.about(10), 0);
        for (int box = 0; box < 3; box++) {
            due.is("back(" + box + ")", x.back(box), -1);
        }
        due.is("valley() again: of no bytes", x.valley(), 0);
        due.is("no places", x.about(0), 0);
        Due.feed(x, P + "1;" + Lines.thing("t", "a", 1, 0, 1));
        due.is("one person", x.valley(), 1);
        due.is("the thing is whole", x.thing(0, 1), 100);
        due.is("and nobody's", x.thing(0, 0), -1);
        Due.feed(x, AB + Lines.people(6, "1"));
        due.is("six", x.valley(), 6);
    }

    /** A valley of all that there is room for, which has been lived in. */
    private static NoonSquare full() {
        StringBuilder text = new StringBuilder("law force;late 100;");
        for (int i = 0; i < 8; i++) {
            text.append(Lines.place(Lines.name(i), 50 - i));
            text.append(i == 0 ? "" : Lines.road(Lines.name(i - 1), Lines.name(i), 1));
        }
        text.append(Lines.things(10, 9).replace(";", " food;"));
        for (int i = 0; i < 6; i++) {
            text.append(Lines.person(Lines.name(i), Lines.name(i), 1, 1, 1, "(not 1 or far+1)*(mine+9-held)"));
        }
        NoonSquare x = Due.valley(text.toString());
        x.run(3);
        for (int person = 0; person < 6; person++) {
            x.tour(person);
        }
        return x;
    }

    /** What was told and lived before leaves no trace in a valley but w and the time. */
    private static void toldAgain() {
        due.quote("The TAPE (empty then) is the VALLEY (no DAYS, TALES are none, BOXES are empty then; w, the TIME stay)");
        String[] texts = {"", Lines.place("b", 5) + Lines.place("a", 3),
            P + "1+far*2;" + Lines.thing("t", "b", 5, 5, 0) + Lines.thing("s", "a", 4, 5, 0),
            P + "1;" + Lines.person("q", "a", 1, 9, 9, "1") + Lines.thing("t", "a", 5, 5, 0),
            "law near;" + P + "1;" + Lines.thing("t", "a", 5, 5, 0), "law lot;late 100;" + P + "1;" + Lines.thing("t", "a", 5, 5, 0)};
        for (String text : texts) {
            NoonSquare x = full();
            NoonSquare fresh = new NoonSquare();
            fresh.seed(x.about(8));
            Due.feed(x, text);
            Due.feed(fresh, text);
            due.is("valley() again of [" + text + "]", x.valley(), fresh.valley());
            due.yes("the same as on a new object: [" + text + "]", State.toTheEnd(x).equals(State.toTheEnd(fresh)));
        }
        NoonSquare x = full();
        Due.feed(x, "place z noon 5;road z b minutes 5;");
        due.is("places told before are no places", x.valley(), -1);
        due.is("the fault of it", x.fault(0), 5);
        Due.feed(x, "place z noon 5;place b noon 5;thing a at b worth 1 wear 1 heavy 1;person a at b craft 1 force 1 hard 1 stands 1;");
        due.is("names told before are free", x.valley(), 1);
    }

    private static NoonSquare livedWithoutTape() {
        NoonSquare x = State.lived();
        x.end(0);
        return x;
    }

    private static void valleyRefused() {
        due.quote("NONE: a FAULT (all stays).");
        due.refused("a fault at the end", EdgesOfTextTest::livedWithoutTape, x -> {
            Due.feed(x, AB + "late 7;law force;" + Lines.thing("q", "a", 1, 1, 1) + "person");
            return x.valley();
        }, -1);
        due.refused("a fault at once", EdgesOfTextTest::livedWithoutTape, x -> {
            Due.feed(x, "$");
            return x.valley();
        }, -1);
        due.refused("a fault in a rule", EdgesOfTextTest::livedWithoutTape, x -> {
            Due.feed(x, P + "77+;");
            return x.valley();
        }, -1);
    }

    private static void fault() {
        due.quote("Of the latest valley() what 0: its FAULT (0), 1: its place (NONE).");
        NoonSquare x = new NoonSquare();
        due.is("fault(0) ahead of any", x.fault(0), 0);
        due.is("fault(1) ahead of any", x.fault(1), -1);
        Due.feed(x, "place a noon 60;");
        due.is("nothing is judged ahead of valley()", x.fault(0), 0);
        x.valley();
        due.is("fault(0)", x.fault(0), 4);
        due.is("fault(1)", x.fault(1), 13);
        Due.feed(x, "$");
        due.is("it stays up to the next valley()", x.fault(0), 4);
        x.valley();
        due.is("the latest one's fault", x.fault(0), 1);
        due.is("the latest one's place", x.fault(1), 0);
        x.valley();
        due.is("a good one has none", x.fault(0), 0);
        due.is("and no place", x.fault(1), -1);
    }

    private static void faultOfAnother() {
        due.quote("NONE for another what.");
        NoonSquare x = new NoonSquare();
        Due.feed(x, "$");
        x.valley();
        for (int what : new int[] {-1, 2, 3, Integer.MIN_VALUE, Integer.MAX_VALUE}) {
            due.is("fault(" + what + ")", x.fault(what), -1);
        }
    }
}
