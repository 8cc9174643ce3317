import java.io.ByteArrayOutputStream;
import java.io.IOException;
import java.io.PrintStream;
import java.lang.reflect.Method;
import java.lang.reflect.Modifier;
import java.net.URL;
import java.net.URLClassLoader;
import java.nio.charset.StandardCharsets;
import java.nio.file.Files;
import java.nio.file.Path;
import java.util.ArrayList;
import java.util.List;
import java.util.TreeSet;
import java.util.regex.Matcher;
import java.util.regex.Pattern;
import java.util.stream.Stream;
import javax.tools.JavaCompiler;
import javax.tools.ToolProvider;

/** README.md: its program compiles and answers as it says, it shows every call, and what the page names is there. */
public final class ReadmeTest {
    private static final Due due = new Due("ReadmeTest");
    private static final Path TESTS = Path.of("src/test/java");
    private static final Pattern PROGRAM = Pattern.compile("(?s)```java\n(.*?)```");
    private static final Pattern CALL = Pattern.compile("(?m)^ *(x\\.(\\w+)\\(.*?\\)); *// (-?\\d+|true|false)\\b.*$");
    private static int answers;

    public static void main(String[] args) throws Exception {
        String readme = Files.readString(Path.of("README.md"));
        String program = onlyProgram(readme);
        Path dir = Files.createTempDirectory("readme");
        try {
            due.yes("the program compiles as it stands", compiles(dir, program));
            answersAsItSays(dir, program);
        } finally {
            delete(dir);
        }
        namesWhatIsThere(readme);
        namesTheTests(readme);
        namesTheClasses(readme);
        tellsHowToRunTests(readme);
        showsEveryCall(program);
        due.end();
    }

    private static String onlyProgram(String readme) {
        Matcher block = PROGRAM.matcher(readme);
        due.yes("there is a program", block.find());
        String program = block.group(1);
        due.no("there is another one", block.find());
        return program;
    }

    private static boolean compiles(Path dir, String program) throws IOException {
        JavaCompiler compiler = ToolProvider.getSystemJavaCompiler();
        Path file = dir.resolve("Example.java");
        Files.writeString(file, program);
        return compiler != null && compiler.run(null, null, null, "-Xlint:all", "-Werror", "-cp",
            System.getProperty("java.class.path"), "-d", dir.toString(), file.toString()) == 0;
    }

    /** Runs the program with each call turned into a question to this class, which knows what the page says of it. */
    private static void answersAsItSays(Path dir, String program) throws Exception {
        String asking = CALL.matcher(program).replaceAll("ReadmeTest.answered(\"$1\", String.valueOf($1), \"$3\");");
        due.no("a call without its answer", asking.matches("(?s).*\n *x\\..*"));
        due.yes("the program compiles with its calls asked", compiles(dir, asking));
        try (URLClassLoader loader = new URLClassLoader(new URL[] {dir.toUri().toURL()}, ReadmeTest.class.getClassLoader())) {
            loader.loadClass("Example").getMethod("main", String[].class).invoke(null, (Object) new String[0]);
        }
        due.is("calls that were answered", answers, CALL.matcher(program).results().count());
    }

    /** The program's calls come here. */
    public static void answered(String call, String got, String said) {
        answers++;
        due.yes(call + " as README.md says: " + said + ", answered " + got, got.equals(said));
    }

    private static void showsEveryCall(String program) {
        due.quote("Free again at noon: a valley in which whatever anybody has is at the stroke of noon anyone's who stands by it; "
            + "places with noons of their own, roads, things that wear, are eaten, are too heavy, people who use, mend, and stand "
            + "where a rule of each tells, in a text; days gone in earnest by a law, a bell that is late; who has each thing then "
            + "with what odds; standings at rest, how much is lost by crowds; how hard to use what may be another's tomorrow; "
            + "what all is less than if things were kept, by which law most is made; chips that keep a cup; what two lift; "
            + "tours of many noons; plans of a day step by step; tales of who had what judged, known in two times; "
            + "images gone on from.");
        for (Method method : NoonSquare.class.getDeclaredMethods()) {
            if (Modifier.isPublic(method.getModifiers())) {
                boolean isShown = CALL.matcher(program).results().anyMatch(call -> call.group(2).equals(method.getName()));
                due.yes("README.md shows " + method.getName(), isShown);
            }
        }
    }

    private static void namesWhatIsThere(String readme) {
        List<String> paths = quoted(readme, "[\\w./]*/[\\w./]+");
        due.yes("paths are named", paths.size() >= 4);
        // ../shared lies beside the checkout; where the project is looked at alone, it is not.
        boolean hasShared = Files.exists(Path.of("../shared"));
        for (String path : paths) {
            boolean isAway = path.startsWith("../shared") && !hasShared;
            due.yes(path + " is there", isAway || Files.exists(Path.of(path)));
        }
    }

    private static void namesTheTests(String readme) throws IOException {
        String page = readme.substring(readme.indexOf("## How to run its tests"));
        TreeSet<String> named = new TreeSet<>(quoted(page, "[A-Z]\\w+"));
        TreeSet<String> there = new TreeSet<>();
        try (Stream<Path> list = Files.list(TESTS)) {
            list.forEach(path -> there.add(path.getFileName().toString().replace(".java", "")));
        }
        due.yes("README.md names " + named + ", there are " + there, named.equals(there));
    }

    private static void namesTheClasses(String readme) throws IOException {
        int from = readme.indexOf("- `Tape`");
        String page = readme.substring(from, readme.indexOf("## How to run its tests"));
        List<String> inOrder = new ArrayList<>();
        Matcher type = Pattern.compile("(?m)^    private static final class (\\w+) ")
            .matcher(Files.readString(Path.of("src/main/java/NoonSquare.java")));
        while (type.find()) {
            inOrder.add(type.group(1));
        }
        due.yes("the classes in their order: " + inOrder, quoted(page, "[A-Z]\\w+").equals(inOrder));
    }

    private static void tellsHowToRunTests(String readme) {
        due.yes("README.md tells of .ci/run", readme.contains("\n    .ci/run\n"));
        due.yes(".ci/run can be run", Files.isExecutable(Path.of(".ci/run")));
        due.yes("README.md tells of more runs", readme.contains("`java -cp <classes> ModelTest <first seed> <runs>`"));
        ByteArrayOutputStream told = new ByteArrayOutputStream();
        PrintStream out = System.out;
        System.setOut(new PrintStream(told, true, StandardCharsets.ISO_8859_1));
        ModelTest.main(new String[] {"700", "3"});
        System.setOut(out);
        due.yes("ModelTest takes a seed and runs", told.toString(StandardCharsets.ISO_8859_1).contains(" in 3 runs, "));
    }

    /** What stands between the page's signs for code and is of this form, in its order. */
    private static List<String> quoted(String page, String form) {
        return Pattern.compile("`(" + form + ")`").matcher(page).results().map(found -> found.group(1)).toList();
    }

    private static void delete(Path dir) throws IOException {
        try (Stream<Path> list = Files.list(dir)) {
            for (Path file : list.toList()) {
                Files.delete(file);
            }
        }
        Files.delete(dir);
    }
}
