import java.lang.reflect.InvocationTargetException;
import java.lang.reflect.Method;
import java.util.Arrays;
import java.util.Comparator;
import java.util.Random;

/** No call ever throws, for any arguments in any state (LANGUAGE.md, rule 7). */
public final class AnyArgumentTest {
    private static final int[] EDGES = {Integer.MIN_VALUE, Integer.MIN_VALUE + 1, -1000000, -61, -3, -2, -1, 0, 1, 2, 3, 4, 5, 6,
        8, 9, 10, 11, 19, 20, 30, 31, 39, 40, 41, 59, 60, 61, 99, 100, 101, 1000, 1001, 1700, 9999, 20000, 65536, 100000,
        Integer.MAX_VALUE - 20, Integer.MAX_VALUE - 1, Integer.MAX_VALUE};
    private static final int LIVES = 1500;
    private static final int CALLS = 120;

    public static void main(String[] args) throws IllegalAccessException {
        Method[] face = NoonSquare.class.getDeclaredMethods();
        face = Arrays.stream(face).filter(method -> (method.getModifiers() & 1) == 1).toArray(Method[]::new);
        Arrays.sort(face, Comparator.comparing(Method::getName));
        for (int life = 0; life < LIVES; life++) {
            Random random = new Random(life);
            NoonSquare x = new NoonSquare();
            if (life % 10 != 0) {
                tell(x, random);
            }
            for (int call = 0; call < CALLS; call++) {
                ask(x, face[random.nextInt(face.length)], random, life);
            }
        }
        System.out.println("AnyArgumentTest: " + LIVES * CALLS + " calls, none threw");
    }

    private static void tell(NoonSquare x, Random random) {
        x.end(0);
        Due.feed(x, new RandomValley(random).text());
        x.valley();
    }

    private static void ask(NoonSquare x, Method method, Random random, int life) throws IllegalAccessException {
        Object[] arguments = new Object[method.getParameterCount()];
        for (int i = 0; i < arguments.length; i++) {
            arguments[i] = random.nextInt(3) == 0 ? random.nextInt(3) : EDGES[random.nextInt(EDGES.length)];
        }
        if (method.getName().equals("valley")) {
            // What is on the tape by chance is hardly ever a valley with anybody in it.
            tell(x, random);
            return;
        }
        try {
            method.invoke(x, arguments);
        } catch (InvocationTargetException e) {
            System.out.println("AnyArgumentTest: life " + life + ": " + method.getName() + Arrays.toString(arguments) + " threw "
                + e.getCause());
            System.exit(1);
        }
    }
}
