import java.io.IOException;
import java.lang.reflect.Method;
import java.lang.reflect.Modifier;
import java.nio.file.Files;
import java.nio.file.Path;
import java.util.ArrayList;
import java.util.List;
import java.util.regex.Matcher;
import java.util.regex.Pattern;
import java.util.stream.Stream;

/** README.md: each call that it shows is made, and must answer what stands behind it; no call, no test is left out. */
final class ReadmeTest {
    private static final Check CHECK = new Check("ReadmeTest");
    private static final Path README = Path.of("README.md");
    private static final Path TESTS = Path.of("src/test/java");
    private static final String MAKING = "BentPicture p = new BentPicture();";
    private static final Pattern CALL = Pattern.compile("p\\.(\\w+)\\(([^)]*)\\);\\s+// (-?\\d+|true|false): \\S.*");

    private static BentPicture picture;
    private static int calls;

    private ReadmeTest() {
    }

    public static void main(String[] args) throws IOException, ReflectiveOperationException {
        String text = Files.readString(README);
        for (String line : shown(text)) {
            follow(line);
        }
        CHECK.due("calls were shown", calls > 40, true);
        namesEveryCall(text);
        namesEveryTest(text);
        reasons(text);
        CHECK.end();
    }

    /** The lines of code, those of all blocks one behind the other. */
    private static List<String> shown(String text) {
        List<String> lines = new ArrayList<>();
        Matcher block = Pattern.compile("(?s)```java\n(.*?)```").matcher(text);
        while (block.find()) {
            lines.addAll(List.of(block.group(1).split("\n")));
        }
        return lines;
    }

    private static void follow(String line) throws ReflectiveOperationException {
        if (line.equals(MAKING)) {
            picture = new BentPicture();
            return;
        }
        Matcher call = CALL.matcher(line);
        boolean read = picture != null && call.matches();
        CHECK.due("can be followed: " + line, read, true);
        if (read) {
            calls++;
            String got = String.valueOf(answer(call.group(1), call.group(2)));
            CHECK.due(line + " answered " + got, got.equals(call.group(3)), true);
        }
    }

    private static Object answer(String name, String arguments) throws ReflectiveOperationException {
        String[] told = arguments.isBlank() ? new String[0] : arguments.split(", ");
        for (Method m : BentPicture.class.getDeclaredMethods()) {
            if (m.getName().equals(name) && Modifier.isPublic(m.getModifiers()) && m.getParameterCount() == told.length) {
                return m.invoke(picture, values(told));
            }
        }
        return "nothing, there is no such call";
    }

    private static Object[] values(String[] told) {
        Object[] values = new Object[told.length];
        for (int i = 0; i < told.length; i++) {
            boolean truth = told[i].equals("true") || told[i].equals("false");
            values[i] = truth ? (Object) Boolean.valueOf(told[i]) : (Object) number(told[i]);
        }
        return values;
    }

    private static Integer number(String told) {
        return told.equals("BentPicture.NONE") ? Integer.valueOf(BentPicture.NONE) : Integer.valueOf(told);
    }

    private static void namesEveryCall(String text) {
        String section = text.substring(text.indexOf("## The calls"), text.indexOf("## How to run the tests"));
        for (Method m : BentPicture.class.getDeclaredMethods()) {
            if (Modifier.isPublic(m.getModifiers())) {
                CHECK.due("names " + m.getName(), section.contains("`" + m.getName() + "`"), true);
            }
        }
    }

    private static void namesEveryTest(String text) throws IOException {
        List<String> tests = new ArrayList<>();
        try (Stream<Path> files = Files.list(TESTS)) {
            files.map(f -> f.getFileName().toString()).filter(f -> f.endsWith("Test.java"))
                .forEach(f -> tests.add(f.replace(".java", "")));
        }
        for (String test : tests) {
            CHECK.due("names " + test, text.contains("`" + test + "`"), true);
        }
        Matcher named = Pattern.compile("`(\\w+Test)`").matcher(text);
        while (named.find()) {
            CHECK.due("there is " + named.group(1), tests.contains(named.group(1)), true);
        }
        CHECK.due("the script stands", Files.isExecutable(Path.of(".ci/run")), true);
    }

    /** The one reason that no block shows, as it needs 30 knots; and that the others are shown. */
    private static void reasons(String text) {
        CHECK.due("no room for a 31st knot", Scene.rim().insert(9, 9, 9, 9), -5);
        for (int reason = 1; reason <= 5; reason++) {
            CHECK.due("tells reason " + reason, text.contains("\n| " + reason + " | "), true);
        }
        for (int reason = 1; reason <= 4; reason++) {
            CHECK.due("shows insert refused by " + reason, shows(text, "insert", -reason), true);
            CHECK.due("shows move refused by " + reason, shows(text, "move", reason), true);
        }
        CHECK.due("shows NONE", shows(text, "value", BentPicture.NONE), true);
        CHECK.due("shows false", Pattern.compile("p\\.size\\([^)]*\\);\\s+// false").matcher(text).find(), true);
    }

    private static boolean shows(String text, String name, int answer) {
        return Pattern.compile("p\\." + name + "\\([^)]*\\);\\s+// " + answer + ":").matcher(text).find();
    }
}
