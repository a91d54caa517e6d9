import java.io.IOException;
import java.lang.reflect.Constructor;
import java.lang.reflect.Field;
import java.lang.reflect.Method;
import java.lang.reflect.Modifier;
import java.nio.file.Files;
import java.nio.file.Path;
import java.util.Arrays;
import java.util.Set;
import java.util.TreeSet;
import java.util.regex.Matcher;
import java.util.regex.Pattern;

/** The face of the document, and those rules of LANGUAGE.md that can be read off the class and its text. */
final class LanguageTest {
    private static final Check CHECK = new Check("LanguageTest");
    private static final Path SOURCE = Path.of("src/main/java/BentPicture.java");
    private static final Set<String> FACE = new TreeSet<>(Set.of(
        "boolean size(int, int)", "int paint(int, int, int)", "int weave(int)", "int value(int, int, boolean)",
        "int insert(int, int, int, int)", "int move(int, int, int)", "int turn(int, int)", "int out(int)",
        "int straight()", "int carry()", "int knot(int, int)", "int triangle(int, int)", "int edge(int, int, int)",
        "int count(int)", "int find(int, int, boolean)", "int share(int, int, int)", "int from(int, int, int)",
        "int to(int, int, int)", "int nearest(int, int)", "int blend(int, int, int)", "int uses(int, int)",
        "int lost()", "int trace(int, int, int)", "int loops()", "int room(int, int)", "int reach(int, int, int)",
        "int bent(int)", "int stretch(int)"));
    private static final int MOST_LINES = 60;
    private static final int MOST_PARAMETERS = 7;
    private static final int MOST_FIELDS = 20;
    private static final int MOST_CLASSES = 12;

    private LanguageTest() {
    }

    public static void main(String[] args) throws IOException {
        face();
        String text = bare(Files.readString(SOURCE));
        words(text);
        lengths(text);
        inner();
        CHECK.end();
    }

    private static void holds(String what, boolean it) {
        CHECK.due(what, it, true);
    }

    private static String told(Method m) {
        String[] kinds = Arrays.stream(m.getParameterTypes()).map(Class::getSimpleName).toArray(String[]::new);
        return m.getReturnType().getSimpleName() + " " + m.getName() + "(" + String.join(", ", kinds) + ")";
    }

    private static void face() {
        Class<?> c = BentPicture.class;
        holds("the class is public and final", Modifier.isPublic(c.getModifiers()) && Modifier.isFinal(c.getModifiers()));
        Set<String> open = new TreeSet<>();
        Set<String> names = new TreeSet<>();
        for (Method m : c.getDeclaredMethods()) {
            if (!Modifier.isPrivate(m.getModifiers())) {
                holds(m + " is public and of the object", Modifier.isPublic(m.getModifiers())
                    && !Modifier.isStatic(m.getModifiers()));
                open.add(told(m));
                names.add(m.getName());
            }
        }
        holds("the face is the document's: " + open, open.equals(FACE));
        for (Field f : c.getDeclaredFields()) {
            holds("field " + f.getName() + " is private or NONE",
                Modifier.isPrivate(f.getModifiers()) || f.getName().equals("NONE") && Modifier.isPublic(f.getModifiers()));
        }
        Constructor<?>[] constructors = c.getDeclaredConstructors();
        holds("one constructor, public, of nothing", constructors.length == 1
            && Modifier.isPublic(constructors[0].getModifiers()) && constructors[0].getParameterCount() == 0);
        for (Class<?> inside : withInside()) {
            for (Method m : inside.getDeclaredMethods()) {
                boolean own = inside != c || Modifier.isPrivate(m.getModifiers());
                holds(m + " does not bear a public name", !own || !names.contains(m.getName()));
                holds(m + " has few parameters", m.getParameterCount() <= MOST_PARAMETERS);
            }
        }
    }

    private static Class<?>[] withInside() {
        Class<?>[] inside = BentPicture.class.getDeclaredClasses();
        Class<?>[] all = Arrays.copyOf(inside, inside.length + 1);
        all[inside.length] = BentPicture.class;
        return all;
    }

    private static void inner() {
        holds("few classes", withInside().length <= MOST_CLASSES);
        for (Class<?> c : withInside()) {
            int fields = 0;
            for (Field f : c.getDeclaredFields()) {
                boolean constant = Modifier.isStatic(f.getModifiers());
                holds(f + " if static is final", !constant || Modifier.isFinal(f.getModifiers()));
                fields += constant ? 0 : 1;
            }
            holds(c + " has few fields", fields <= MOST_FIELDS);
            if (c != BentPicture.class) {
                holds(c + " is static and not public", Modifier.isStatic(c.getModifiers())
                    && !Modifier.isPublic(c.getModifiers()) && !Modifier.isProtected(c.getModifiers()));
            }
        }
    }

    /** The text without its comments. */
    private static String bare(String text) {
        return text.replaceAll("(?s)/\\*.*?\\*/", "").replaceAll("//[^\n]*", "");
    }

    private static void words(String text) {
        String[] out = {"throw", "throws", "try", "catch", "synchronized", "assert", "package", "equals", "hashCode",
            "toString", "System", "Thread", "Random", "Object", "float", "double", "native", "volatile", "var"};
        for (String word : out) {
            holds("no word " + word, !Pattern.compile("\\b" + word + "\\b").matcher(text).find());
        }
        holds("no lambda", !text.contains("->"));
        holds("no method reference", !text.contains("::"));
        holds("no exact function", !text.contains("Exact"));
        holds("no static block", !Pattern.compile("static\\s*\\{").matcher(text).find());
        holds("no loop without an end", !Pattern.compile("while\\s*\\(\\s*true|for\\s*\\([^;]*;\\s*;").matcher(text).find());
        Matcher imports = Pattern.compile("import\\s+([^;]+);").matcher(text);
        while (imports.find()) {
            holds("import " + imports.group(1), Set.of("java.util.Arrays", "java.util.ArrayList", "java.util.List")
                .contains(imports.group(1)));
        }
        for (int i = 0; i < text.length(); i++) {
            if (text.charAt(i) > 127) {
                holds("plain signs alone", false);
            }
        }
        Matcher made = Pattern.compile("new\\s+\\w+").matcher(text);
        while (made.find()) {
            String ahead = text.substring(0, made.start());
            String line = ahead.substring(ahead.lastIndexOf('\n') + 1);
            holds("rows and objects are made with the object alone: " + line + made.group(),
                line.matches("\\s*(final \\S+ )?\\w+ = "));
        }
    }

    private static void lengths(String text) {
        String[] lines = text.split("\n");
        int start = -1;
        int depth = 0;
        int methods = 0;
        for (int i = 0; i < lines.length; i++) {
            boolean head = lines[i].matches("\\s+[\\w\\[\\] ]+\\([^;]*\\) \\{") && !lines[i].matches("\\s+(if|for|while|switch|else).*");
            if (head) {
                start = i;
                depth = lines[i].indexOf(lines[i].trim());
                methods++;
            }
            if (start >= 0 && lines[i].equals(" ".repeat(depth) + "}")) {
                holds("short method at line " + start, i - start + 1 <= MOST_LINES);
                start = -1;
            }
        }
        holds("methods were found", methods > 60);
    }
}
