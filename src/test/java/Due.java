import java.nio.charset.StandardCharsets;
import java.util.function.Supplier;
import java.util.function.ToIntFunction;

/** Counts answers that are not as due, and feeds texts. */
final class Due {
    private final String name;
    private int wrong;
    private int asked;
    private String sentence = "";

    Due(String name) {
        this.name = name;
    }

    /** The document's words that the answers from here on are held against. */
    void quote(String words) {
        sentence = " [" + words + "]";
        yes("the document says so", Document.says(words));
    }

    void is(String call, long got, long want) {
        asked++;
        if (got != want) {
            wrong++;
            System.out.println(name + sentence + ": " + call + " answered " + got + ", due is " + want);
        }
    }

    void yes(String call, boolean got) {
        is(call, got ? 1 : 0, 1);
    }

    void no(String call, boolean got) {
        is(call, got ? 1 : 0, 0);
    }

    /** The text's fault and its place, as a valley read from it has them. */
    void fault(String text, int fault, int place) {
        NoonSquare x = new NoonSquare();
        feed(x, text);
        is("valley of [" + text + "]", x.valley(), NoonSquare.NONE);
        is("fault(0) of [" + text + "]", x.fault(0), fault);
        is("fault(1) of [" + text + "]", x.fault(1), place);
    }

    /** The fault of a text at the mark ^, which is no part of it. */
    void marked(int fault, String text) {
        fault(text.replace("^", ""), fault, text.indexOf('^'));
    }

    void fits(String text, int people) {
        NoonSquare x = new NoonSquare();
        feed(x, text);
        is("valley of [" + text + "]", x.valley(), people);
        is("fault(0) of [" + text + "]", x.fault(0), 0);
        is("fault(1) of [" + text + "]", x.fault(1), NoonSquare.NONE);
    }

    /** A call that is refused: its answer, and that an object that lived alike without it is the same to the end. */
    void refused(String call, Supplier<NoonSquare> life, ToIntFunction<NoonSquare> refusal, int want) {
        NoonSquare x = life.get();
        is(call, refusal.applyAsInt(x), want);
        leaves(call, life, refusal);
    }

    /** That an object is the same to the end with the call and without it. */
    void leaves(String call, Supplier<NoonSquare> life, ToIntFunction<NoonSquare> asking) {
        NoonSquare x = life.get();
        asking.applyAsInt(x);
        yes(call + " changes nothing", State.toTheEnd(x).equals(State.toTheEnd(life.get())));
    }

    void end() {
        System.out.println(name + ": " + asked + " answers, " + wrong + " not as due");
        if (wrong != 0) {
            System.exit(1);
        }
    }

    /** Puts a text on the tape, behind what is there. */
    static void feed(NoonSquare x, String text) {
        byte[] bytes = text.getBytes(StandardCharsets.ISO_8859_1);
        int before = x.about(7);
        for (int i = 0; i < bytes.length; i += 20) {
            x.feed(four(bytes, i), four(bytes, i + 4), four(bytes, i + 8), four(bytes, i + 12), four(bytes, i + 16));
        }
        x.end(before + bytes.length);
    }

    static int four(byte[] bytes, int at) {
        int sum = 0;
        for (int i = at; i < at + 4; i++) {
            sum = sum << 8 | (i < bytes.length ? bytes[i] & 255 : 0);
        }
        return sum;
    }

    static NoonSquare valley(String text) {
        NoonSquare x = new NoonSquare();
        feed(x, text);
        if (x.valley() == NoonSquare.NONE) {
            System.out.println("no valley: fault " + x.fault(0) + " at " + x.fault(1) + " of [" + text + "]");
            System.exit(1);
        }
        return x;
    }
}
