/** All that can be asked of an object, as one text, so that two objects can be held against each other. */
final class State {
    private static final String TEXT = "law lot;late 50;" + Lines.place("a", 0) + Lines.place("b", 5) + Lines.road("a", "b", 3)
        + Lines.thing("s", "a", 50, 9, 0) + Lines.food("f", "b", 9, 0, 30)
        + Lines.person("x", "a", 3, 20, 5, "worth*left") + Lines.person("y", "b", 2, 10, 4, "100-far");
    private final NoonSquare x;
    private final StringBuilder out = new StringBuilder();

    private State(NoonSquare x) {
        this.x = x;
    }

    /** An object that has seen days, gifts, chips, tales, images, a time, and half a text on its tape. */
    static NoonSquare lived() {
        NoonSquare x = Due.valley(TEXT);
        x.image(2);
        x.run(2);
        x.give(1, 0);
        x.chip(0, 7);
        x.tale(1, 0, 0);
        x.later(3);
        x.tale(2, 1, 1);
        x.tale(3, 0, -1);
        x.untell(0);
        x.image(0);
        x.run(1);
        x.later(2);
        Due.feed(x, "place q noon 7;place");
        return x;
    }

    /** What the object answers now; it stays as it is. */
    static String now(NoonSquare x) {
        State state = new State(x);
        state.readAll();
        return state.out.toString();
    }

    /** What it answers now, behind each of its images, behind more days and with its tape as valley; it is used up by that. */
    static String toTheEnd(NoonSquare x) {
        State state = new State(x);
        state.readAll();
        state.add("run", x.run(2));
        state.readAll();
        for (int box = 0; box < 3; box++) {
            int days = x.back(box);
            state.add("back", days);
            if (days != NoonSquare.NONE) {
                state.readAll();
            }
        }
        state.add("valley", x.valley());
        state.add("fault", x.fault(0));
        state.add("its place", x.fault(1));
        state.readAll();
        return state.out.toString();
    }

    private void add(String call, int answer) {
        out.append(call).append(' ').append(answer).append('\n');
    }

    private void readAll() {
        for (int what = 0; what <= 10; what++) {
            add("about", x.about(what));
        }
        for (int a = 0; a < x.about(0); a++) {
            add("far", x.far(0, a));
        }
        for (int person = 0; person < x.about(3); person++) {
            for (int what = 0; what < 4; what++) {
                add("person", x.person(person, what));
            }
            add("tour", x.tour(person));
        }
        for (int thing = 0; thing < x.about(2); thing++) {
            for (int what = 0; what < 6; what++) {
                add("thing", x.thing(thing, what));
            }
            add("since", x.since(thing));
            add("asks", x.asks(0, thing));
        }
        for (int what = 0; what < 3; what++) {
            add("rest", x.rest(what));
        }
        for (int what = 0; what < 4; what++) {
            add("judge", x.judge(what, x.about(6)));
            add("judge of what was known at 3", x.judge(what, 3));
        }
    }
}
