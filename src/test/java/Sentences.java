import java.io.IOException;
import java.nio.file.Files;
import java.nio.file.Path;
import java.util.ArrayList;
import java.util.Arrays;
import java.util.HashSet;
import java.util.List;
import java.util.Map;
import java.util.Set;
import java.util.TreeMap;
import java.util.function.Supplier;
import java.util.function.ToIntFunction;

/**
 * Ties answers to the sentences of the document: a test names a sentence, then looks at what it asks for. A sentence
 * that the document does not have, one that no test names, and one under which nothing is looked at are told as wrong.
 */
final class Sentences {
    private static final Path DOCUMENT = Path.of("../shared/DOC.md");
    private static final int PROMISES = 29;

    /** A question about a dot. */
    interface DotCall {
        int ask(BentPicture picture, int x, int y);
    }

    private final Check check;
    private final Map<String, List<String>> document;
    private final Set<String> named = new HashSet<>();
    private String now = "";
    private int answers = 1;

    /** Where the document is not at hand, the answers are looked at all the same. */
    Sentences(String test) throws IOException {
        check = new Check(test);
        if (!Files.isReadable(DOCUMENT)) {
            System.out.println(test + ": no " + DOCUMENT + ", its sentences are not compared");
            document = null;
            return;
        }
        document = read(Files.readAllLines(DOCUMENT));
        check.due("promises of the document", document.keySet().stream().filter(s -> s.startsWith("Promise")).count(),
            PROMISES);
    }

    /** The sections, each with its sentences. */
    static Map<String, List<String>> read(List<String> lines) {
        Map<String, StringBuilder> texts = new TreeMap<>();
        String heading = "";
        String section = "";
        for (String line : lines) {
            if (line.startsWith("## ")) {
                heading = line.substring(3).split(":")[0];
                section = heading;
            } else if (heading.equals("Terms") && line.matches("\\d\\. .*")) {
                section = "Terms " + line.charAt(0);
                line = line.substring(3);
            } else if (line.startsWith("The constants: ")) {
                section = "Constants";
            }
            if (!line.startsWith("#") && !line.startsWith("```") && !line.startsWith("Ahead of")) {
                texts.computeIfAbsent(section, s -> new StringBuilder()).append(line.trim()).append(' ');
            }
        }
        Map<String, List<String>> all = new TreeMap<>();
        texts.forEach((s, text) -> all.put(s, split(text.toString())));
        return all;
    }

    /** A single word (as "ACTS.") says nothing that could be looked at. */
    private static List<String> split(String text) {
        List<String> sentences = new ArrayList<>();
        for (String sentence : text.trim().replaceFirst("^.*`: ", "").split("(?<=\\.|\\.\\))\\s+")) {
            if (sentence.contains(" ")) {
                sentences.add(sentence);
            }
        }
        return sentences;
    }

    /** What is looked at from here on is what this sentence asks for. */
    void says(String section, String sentence) {
        closeSentence();
        now = section + ", \"" + sentence + "\": ";
        boolean stands = document == null || document.getOrDefault(section, List.of()).contains(sentence);
        check.due(now + "stands in the document", stands, true);
        check.due(now + "was not named before", named.add(section + sentence), true);
        answers = 0;
    }

    /** What is looked at from here on is what this section shows, which is no sentence. */
    void shows(String section) {
        closeSentence();
        now = section + ": ";
        answers = 0;
    }

    private void closeSentence() {
        check.due(now + "something was looked at", answers > 0, true);
    }

    void due(String call, long got, long want) {
        check.due(now + call, got, want);
        answers++;
    }

    void due(String call, boolean got, boolean want) {
        due(call, got ? 1 : 0, want ? 1 : 0);
    }

    void all(String call, int[] got, int... want) {
        check.due(now + call + " " + Arrays.toString(got) + ", due is " + Arrays.toString(want),
            Arrays.equals(got, want), true);
        answers++;
    }

    /** A call that answers so and leaves all as it was. */
    void stays(String call, Supplier<BentPicture> scene, ToIntFunction<BentPicture> ask, int want) {
        due(call, ask.applyAsInt(scene.get()), want);
        boolean same = Arrays.equals(Scene.look(() -> charted(scene)), Scene.look(() -> after(scene, ask)));
        due(call + " leaves all as it was", same, true);
    }

    /** What there is to see behind an act does not hang on what was asked ahead of it. */
    void isFresh(String act, Supplier<BentPicture> scene, ToIntFunction<BentPicture> ask) {
        int[] seen = Scene.look(() -> after(scene, ask));
        int[] unasked = Scene.look(() -> acted(scene.get(), ask));
        due(act + ": as if nothing had been asked before", Arrays.equals(seen, unasked), true);
    }

    private static BentPicture acted(BentPicture picture, ToIntFunction<BentPicture> ask) {
        ask.applyAsInt(picture);
        return picture;
    }

    /** A dot is asked for ahead of the call, so that what the object keeps of its dots would be found stale. */
    private static BentPicture charted(Supplier<BentPicture> scene) {
        BentPicture picture = scene.get();
        picture.nearest(0, 0);
        return picture;
    }

    private static BentPicture after(Supplier<BentPicture> scene, ToIntFunction<BentPicture> ask) {
        return acted(charted(scene), ask);
    }

    /** NONE beyond each side, something else at the outermost dots. */
    void noSuchDot(String call, Supplier<BentPicture> scene, DotCall ask) {
        int w = scene.get().count(0);
        int h = scene.get().count(1);
        for (int[] dot : Scene.beyond(w, h)) {
            due(call + " at " + dot[0] + ", " + dot[1], ask.ask(scene.get(), dot[0], dot[1]), BentPicture.NONE);
        }
        int[][] outermost = {{0, 0}, {w - 1, 0}, {w - 1, h - 1}, {0, h - 1}};
        for (int[] dot : outermost) {
            due(call + " at " + dot[0] + ", " + dot[1] + " is told",
                ask.ask(scene.get(), dot[0], dot[1]) >= 0, true);
        }
    }

    /** Ends the test: each sentence of these sections must have been named. */
    void end(String... sections) {
        closeSentence();
        if (document != null) {
            for (String section : sections) {
                lookForAll(section);
            }
        }
        check.end();
    }

    private void lookForAll(String section) {
        List<String> sentences = document.getOrDefault(section, List.of());
        check.due(section + " has sentences", !sentences.isEmpty(), true);
        for (String sentence : sentences) {
            check.due(section + ", \"" + sentence + "\" has a test", named.contains(section + sentence), true);
        }
    }
}
