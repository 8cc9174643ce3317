import java.lang.reflect.Array;
import java.lang.reflect.Constructor;
import java.lang.reflect.Field;
import java.lang.reflect.Method;
import java.lang.reflect.Modifier;
import java.nio.file.Files;
import java.nio.file.Path;
import java.util.ArrayList;
import java.util.IdentityHashMap;
import java.util.List;
import java.util.Map;
import java.util.TreeSet;
import java.util.regex.Matcher;
import java.util.regex.Pattern;

/** The face of the document, and the rules of LANGUAGE.md that a program can see. */
public final class LanguageTest {
    private static final Due due = new Due("LanguageTest");
    private static final String FACE = "about(int)int asks(int,int)int back(int)int chance(int,int,int)int chip(int,int)int "
        + "end(int)int far(int,int)int fault(int)int feed(int,int,int,int,int)int give(int,int)boolean image(int)int "
        + "judge(int,int)int keeps(int)int later(int)int law(int)int lift(int,int)int made(int,int)int person(int,int)int "
        + "rest(int)int run(int)int seed(int)int since(int)int stands(int,int)int tale(int,int,int)int thing(int,int)int "
        + "tour(int)int untell(int)boolean used(int,int,int,int)int valley()int";

    public static void main(String[] args) throws Exception {
        face();
        faceOfTheDocument();
        classes();
        words();
        room();
        due.end();
    }

    private static void face() {
        TreeSet<String> seen = new TreeSet<>();
        for (Method method : NoonSquare.class.getDeclaredMethods()) {
            if (!Modifier.isPrivate(method.getModifiers())) {
                StringBuilder out = new StringBuilder(method.getName()).append('(');
                for (Class<?> type : method.getParameterTypes()) {
                    out.append(out.charAt(out.length() - 1) == '(' ? "" : ",").append(type.getName());
                }
                seen.add(out.append(')').append(method.getReturnType().getName()).toString());
                due.yes(method + " is public", Modifier.isPublic(method.getModifiers()));
                due.no(method + " is static", Modifier.isStatic(method.getModifiers()));
            }
        }
        due.yes("the methods of the face: " + seen, String.join(" ", seen).equals(FACE));
        due.yes("public and final", (NoonSquare.class.getModifiers() & (Modifier.PUBLIC | Modifier.FINAL))
            == (Modifier.PUBLIC | Modifier.FINAL));
        due.is("constructors", NoonSquare.class.getDeclaredConstructors().length, 1);
        due.is("public constructors", NoonSquare.class.getConstructors().length, 1);
        for (Field field : NoonSquare.class.getDeclaredFields()) {
            boolean isNone = field.getName().equals("NONE");
            due.yes(field + " is as it should be", isNone == !Modifier.isPrivate(field.getModifiers()));
        }
    }

    /** The face as the document writes it out, where it can be read. */
    private static void faceOfTheDocument() {
        String text = Document.text();
        if (text.isEmpty()) {
            return;
        }
        String face = text.substring(text.indexOf("```java"), text.indexOf("## Terms"));
        TreeSet<String> told = new TreeSet<>();
        Matcher method = Pattern.compile("public (int|boolean) (\\w+)\\(([^)]*)\\);").matcher(face);
        while (method.find()) {
            told.add(method.group(2) + "(" + method.group(3).replaceAll("int \\w+", "int").replace(", ", ",") + ")"
                + method.group(1));
        }
        due.yes("the methods that the document tells: " + told, String.join(" ", told).equals(FACE));
        due.yes("the class", face.contains("public final class NoonSquare {") && face.contains("public NoonSquare();"));
        due.is("public things of the face", face.split("public ").length - 1, told.size() + 3);
        due.yes("the constant", face.contains("public static final int NONE = -1;") && NoonSquare.NONE == -1);
    }

    private static List<Class<?>> all() {
        List<Class<?>> all = new ArrayList<>(List.of(NoonSquare.class.getDeclaredClasses()));
        all.add(NoonSquare.class);
        return all;
    }

    private static void classes() {
        List<String> names = new ArrayList<>();
        for (String part : FACE.split(" ")) {
            names.add(part.substring(0, part.indexOf('(')));
        }
        due.yes("twelve classes at most", all().size() <= 12);
        for (Class<?> type : all()) {
            due.yes(type + " is static", type == NoonSquare.class || Modifier.isStatic(type.getModifiers()));
            int fields = 0;
            for (Field field : type.getDeclaredFields()) {
                boolean isStatic = Modifier.isStatic(field.getModifiers());
                due.yes(field + " is final if it is static", !isStatic || Modifier.isFinal(field.getModifiers()));
                fields += isStatic ? 0 : 1;
            }
            due.yes(type + " has twenty fields at most", fields <= 20);
            for (Method method : type.getDeclaredMethods()) {
                due.yes(method + " takes seven at most", method.getParameterCount() <= 7);
                due.no(method + " bears a public name",
                    !Modifier.isPublic(method.getModifiers()) && names.contains(method.getName()));
            }
            for (Constructor<?> constructor : type.getDeclaredConstructors()) {
                due.yes(constructor + " takes seven at most", constructor.getParameterCount() <= 7);
            }
        }
    }

    private static void words() throws Exception {
        String source = Files.readString(Path.of("src/main/java/NoonSquare.java"));
        String code = source.replaceAll("(?s)/\\*.*?\\*/", " ").replaceAll("//[^\n]*", " ")
            .replaceAll("\"[^\"\n]*\"", "\"\"").replaceAll("'[^'\n]*'", "' '");
        for (char c : source.toCharArray()) {
            if (c > 126 || c < 32 && c != '\n') {
                due.is("a sign of the source", c, ' ');
            }
        }
        Matcher bad = Pattern.compile("\\b(throw|throws|try|catch|finally|synchronized|assert|import|package|volatile"
            + "|native|Exact|System\\.(?!arraycopy)|Object|equals|hashCode|toString|double|float|var)\\b|->|::|\\?>")
            .matcher(code);
        while (bad.find()) {
            due.is("in the source: " + bad.group(), 1, 0);
        }
        for (String line : code.split("\n")) {
            if (line.contains("new ")) {
                boolean once = line.matches(" +(private )?final [\\w\\[\\]]+ \\w+ = new .*")
                    || line.matches(" +this\\.\\w+ = new .*") || line.matches(" +boxes\\[box\\] = new Now\\(\\);");
                due.yes("made in a constructor: " + line.trim(), once);
            }
        }
        Matcher loop = Pattern.compile("(?m)^ +(for|while) \\((.*)\\) \\{$").matcher(code);
        int loops = 0;
        while (loop.find()) {
            loops++;
            due.yes("a loop against a bound: " + loop.group(2), loop.group(2).matches(".*[<>]=? ?.*"));
        }
        due.yes("loops were seen", loops > 50);
        int start = 0;
        String[] lines = source.split("\n");
        for (int i = 0; i < lines.length; i++) {
            if (lines[i].matches(" {4,8}[a-zA-Z].*\\) \\{")) {
                start = i;
            }
            if (lines[i].matches(" {4,8}\\}") && start > 0) {
                due.yes("sixty lines at most from line " + (start + 1), i - start < 60 || lines[i].length() == 5);
            }
        }
    }

    /** All that a new object makes: few enough for hundreds of objects in one room. */
    private static void room() throws Exception {
        Map<Object, Object> seen = new IdentityHashMap<>();
        long elements = count(new NoonSquare(), seen);
        System.out.println("LanguageTest: a new object makes " + seen.size() + " objects, " + elements + " elements");
        due.yes("objects", seen.size() < 150);
        due.yes("elements", elements < 10000);
    }

    private static long count(Object object, Map<Object, Object> seen) throws Exception {
        if (object == null || seen.put(object, object) != null) {
            return 0;
        }
        Class<?> type = object.getClass();
        long sum = 0;
        if (type.isArray()) {
            for (int i = 0; i < Array.getLength(object); i++) {
                sum += 1 + (type.getComponentType().isPrimitive() ? 0 : count(Array.get(object, i), seen));
            }
            return sum;
        }
        for (Field field : type.getDeclaredFields()) {
            if (!Modifier.isStatic(field.getModifiers())) {
                field.setAccessible(true);
                sum += 1 + (field.getType().isPrimitive() ? 0 : count(field.get(object), seen));
            }
        }
        return sum;
    }
}
