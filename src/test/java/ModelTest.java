import java.util.Random;

/** Random runs of calls, answered by the class and by the plain model alike. Arguments: first seed, how many runs. */
public final class ModelTest {
    private static final int METHODS = 29;
    private final Random random;
    private final NoonSquare x = new NoonSquare();
    private final PlainModel model = new PlainModel();
    private final StringBuilder story = new StringBuilder();
    private int calls;

    private ModelTest(long seed) {
        random = new Random(seed);
    }

    public static void main(String[] args) {
        long from = args.length > 0 ? Long.parseLong(args[0]) : 1;
        long runs = args.length > 1 ? Long.parseLong(args[1]) : 400;
        int calls = 0;
        for (long seed = from; seed < from + runs; seed++) {
            ModelTest test = new ModelTest(seed);
            if (!test.goes()) {
                System.out.println("ModelTest: seed " + seed + "\n" + test.story);
                System.exit(1);
            }
            calls += test.calls;
        }
        System.out.println("ModelTest: " + calls + " calls in " + runs + " runs, all as the model has them");
    }

    private boolean goes() {
        while (calls < 400) {
            if (calls == 0 || random.nextInt(60) == 0) {
                if (!tells(new RandomValley(random).text())) {
                    return false;
                }
            }
            if (!asks(random.nextInt(METHODS))) {
                return false;
            }
        }
        return true;
    }

    private boolean tells(String text) {
        if (random.nextInt(8) != 0 && !same("end(0)", x.end(0), model.end(0))) {
            return false;
        }
        Due.feed(x, text);
        calls += text.length() / 20 + 3;
        String before = model.tape.toString() + text;
        model.tape = new StringBuilder(before.length() > 1700 ? before.substring(0, x.about(7)) : before);
        story.append("tape [").append(model.tape).append("]\n");
        return same("about(7)", x.about(7), model.about(7)) && same("valley()", x.valley(), model.valley())
            && same("fault(0)", x.fault(0), model.fault(0)) && same("fault(1)", x.fault(1), model.fault(1));
    }

    private boolean same(String call, int got, int due) {
        calls++;
        story.append(call).append(" answered ").append(got);
        story.append(got == due ? "\n" : ", the model has " + due + "\n");
        return got == due;
    }

    private boolean same(String call, boolean got, boolean due) {
        return same(call, got ? 1 : 0, due ? 1 : 0);
    }

    private int near(int count) {
        return random.nextInt(12) == 0 ? random.nextInt(count + 4) - 2 : random.nextInt(Math.max(1, count));
    }

    private int thing() {
        return near(model.text.things.size());
    }

    private int person() {
        return near(model.text.people.size());
    }

    private int anybody() {
        return random.nextInt(6) == 0 ? -1 : person();
    }

    private int number(int most) {
        switch (random.nextInt(10)) {
            case 0:
                return new int[] {-1, 0, 1, most, most + 1, Integer.MIN_VALUE, Integer.MAX_VALUE}[random.nextInt(7)];
            default:
                return random.nextInt(most + 1);
        }
    }

    private boolean asks(int method) {
        int t = thing();
        int p = person();
        int n = number(40);
        int what = near(6);
        switch (method) {
            case 0:
                int f = random.nextInt();
                return same("feed", x.feed(f, n, 1, 2, 3), model.feed(f, n, 1, 2, 3));
            case 1:
                int end = random.nextBoolean() ? 0 : number(100);
                return same("end(" + end + ")", x.end(end), model.end(end));
            case 2:
                return same("fault(" + what + ")", x.fault(what), model.fault(what));
            case 3:
            case 4:
                int days = random.nextInt(3) == 0 ? number(20) : 1 + random.nextInt(3);
                return same("run(" + days + ")", x.run(days), model.run(days));
            case 5:
                return same("thing(" + t + ", " + what + ")", x.thing(t, what), model.thing(t, what));
            case 6:
                int which = near(4);
                return same("person(" + p + ", " + which + ")", x.person(p, which), model.person(p, which));
            case 7:
                int a = near(model.text.places.size());
                int b = near(model.text.places.size());
                return same("far(" + a + ", " + b + ")", x.far(a, b), model.far(a, b));
            case 8:
                int to = anybody();
                return same("give(" + t + ", " + to + ")", x.give(t, to), model.give(t, to));
            case 9:
                int by = number(20);
                return same("chip(" + t + ", " + by + ")", x.chip(t, by), model.chip(t, by));
            case 10:
                return same("asks(" + p + ", " + t + ")", x.asks(p, t), model.asks(p, t));
            case 11:
            case 12:
                int whose = anybody();
                int part = near(2);
                return same("chance(" + t + ", " + whose + ", " + part + ")", x.chance(t, whose, part),
                    model.chance(t, whose, part));
            default:
                return method < 21 ? asksWouldBe(method, t, p, n) : asksTales(method, t, n);
        }
    }

    private boolean asksWouldBe(int method, int t, int p, int n) {
        switch (method) {
            case 13:
                int what = near(3);
                return rows() > 3000 || same("rest(" + what + ")", x.rest(what), model.rest(what));
            case 14:
                int i = near(4);
                return rows() > 3000 || same("stands(" + i + ", " + p + ")", x.stands(i, p), model.stands(i, p));
            case 15:
                int by = near(5);
                return same("made(" + n + ", " + by + ")", x.made(n, by), model.made(n, by));
            case 16:
                return same("law(" + n + ")", x.law(n), model.law(n));
            case 17:
                int days = number(30);
                int c = number(100);
                int part = near(2);
                return same("used(" + t + ", " + days + ", " + c + ", " + part + ")", x.used(t, days, c, part),
                    model.used(t, days, c, part));
            case 18:
                return same("keeps(" + t + ")", x.keeps(t), model.keeps(t));
            case 19:
                int other = person();
                return same("lift(" + p + ", " + other + ")", x.lift(p, other), model.lift(p, other));
            default:
                return same("tour(" + p + ")", x.tour(p), model.tour(p));
        }
    }

    /** How many rows the plain model would go through; it is too slow for many. */
    private double rows() {
        double rows = Math.pow(model.text.things.size() + 1, model.text.people.size());
        return rows > 20000 ? 0 : rows;
    }

    private boolean asksTales(int method, int t, int n) {
        switch (method) {
            case 21:
                return same("since(" + t + ")", x.since(t), model.since(t));
            case 22:
                int day = random.nextBoolean() ? number(60) : 1 + random.nextInt(4);
                int p = anybody();
                return same("tale(" + day + ", " + t + ", " + p + ")", x.tale(day, t, p), model.tale(day, t, p));
            case 23:
                int tale = near(Math.min(6, model.tales.size()));
                return same("untell(" + tale + ")", x.untell(tale), model.untell(tale));
            case 24:
                int by = random.nextInt(3) == 0 ? number(1000) : random.nextInt(3);
                return same("later(" + by + ")", x.later(by), model.later(by));
            case 25:
                int what = near(4);
                int k = random.nextInt(4) == 0 ? number(2000) : model.time - random.nextInt(4);
                return same("judge(" + what + ", " + k + ")", x.judge(what, k), model.judge(what, k));
            case 26:
                int w = random.nextInt();
                return same("seed(" + w + ")", x.seed(w), model.seed(w));
            case 27:
                int box = near(3);
                return random.nextBoolean() ? same("image(" + box + ")", x.image(box), model.image(box))
                    : same("back(" + box + ")", x.back(box), model.back(box));
            default:
                int of = near(11);
                return same("about(" + of + ")", x.about(of), model.about(of));
        }
    }
}
