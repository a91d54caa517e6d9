import java.io.IOException;
import java.nio.file.Files;
import java.nio.file.Path;
import java.util.ArrayList;
import java.util.Arrays;
import java.util.List;
import java.util.Map;
import java.util.TreeMap;
import java.util.function.Supplier;
import java.util.function.ToIntFunction;
import java.util.regex.Matcher;
import java.util.regex.Pattern;

/** What stands before and behind the terms and the promises: what it is, the public face, what is not promised. */
final class DocumentTest {
    private static final Path DOCUMENT = Path.of("../shared/DOC.md");
    private static final Path SOURCE = Path.of("src/main/java/BentPicture.java");
    private static final int NONE = BentPicture.NONE;
    private static final int CALLS = 512;
    private static final List<Supplier<BentPicture>> SCENES = List.of(Scene::first, Scene::middle, Scene::sides,
        Scene::twist, Scene::thirty, Scene::rim);
    private static Sentences doc;

    private DocumentTest() {
    }

    public static void main(String[] args) throws IOException, InterruptedException {
        doc = new Sentences("DocumentTest");
        whatItIs();
        calls512();
        if (Files.isReadable(DOCUMENT)) {
            String document = Files.readString(DOCUMENT);
            String source = Files.readString(SOURCE);
            face(document, source);
            groups(document, source);
        }
        whatIsFree();
        oneThreadEach();
        nothingBeyond();
        doc.end("What it is", "Not promised");
    }

    private static void whatItIs() {
        doc.says("What it is", "Pictures bent: a picture carried by a net of triangles whose knots are moved; sides stay "
            + "sides, folds are refused; each dot lies in one triangle, its exact shares tell where it comes from and where "
            + "it goes, without cracks; values taken from the nearest dot or blended exactly; how far a knot may go, which "
            + "edges may be turned, which triangles are stretched, what is lost, what folds on the way; dots traced on and "
            + "on.");
        for (Supplier<BentPicture> scene : SCENES) {
            sidesStaySides(scene);
            dotsLieInOneTriangle(scene.get());
            sharesTellWhereFrom(scene);
            knotsComeFromTheirHomes(scene.get());
        }
        BentPicture x = Scene.twist();
        doc.due("a fold is refused", x.move(4, 0, 5), 4);
        doc.due("a dot is taken from the nearest", x.value(1, 2, true), x.value(2, 2, false));
        doc.due("traced on and on", x.trace(1, 2, 100), 11);
        doc.due("traced on and on", x.trace(1, 2, 99), 12);
    }

    /** Of a dot on a side both numbers of its side stay, wherever it comes from and goes to. */
    private static void sidesStaySides(Supplier<BentPicture> scene) {
        int w = scene.get().count(0);
        int h = scene.get().count(1);
        for (int i = 0; i < w; i++) {
            staysAt(scene.get(), i, 0, 1, 0);
            staysAt(scene.get(), i, h - 1, 1, h - 1);
        }
        for (int i = 0; i < h; i++) {
            staysAt(scene.get(), 0, i, 0, 0);
            staysAt(scene.get(), w - 1, i, 0, w - 1);
        }
    }

    private static void staysAt(BentPicture x, int dotX, int dotY, int what, int side) {
        doc.due("from on its side", x.from(dotX, dotY, what), side * x.from(dotX, dotY, 2));
        doc.due("to on its side", x.to(dotX, dotY, what), side * x.to(dotX, dotY, 2));
    }

    private static void dotsLieInOneTriangle(BentPicture x) {
        int dots = 0;
        for (int t = 0; t < x.count(3); t++) {
            dots += x.triangle(t, 5);
        }
        doc.due("dots of all triangles", dots, x.count(0) * x.count(1));
    }

    /** The shares are added up here once more, by the knots that the object tells. */
    private static void sharesTellWhereFrom(Supplier<BentPicture> scene) {
        int w = scene.get().count(0);
        int h = scene.get().count(1);
        for (int d = 0; d < w * h; d += 3) {
            BentPicture x = scene.get();
            int[] shares = Scene.shares(x, d % w, d / w);
            int[] knots = Scene.knots(x, x.find(d % w, d / w, false));
            int[] from = Scene.from(x, d % w, d / w);
            for (int what = 0; what < 2; what++) {
                long home = 0;
                long place = 0;
                for (int i = 0; i < 3; i++) {
                    home += (long) shares[i] * x.knot(knots[i], what);
                    place += (long) shares[i] * x.knot(knots[i], what + 2);
                }
                doc.due("shares times homes", home * from[2], (long) from[what] * shares[3]);
                doc.due("shares times places", place, (long) (what == 0 ? d % w : d / w) * shares[3]);
            }
        }
    }

    private static void knotsComeFromTheirHomes(BentPicture x) {
        for (int k = 0; k < x.count(2); k++) {
            int[] it = Scene.homeAndPlace(x, k);
            doc.all("knot " + k + " comes from", Scene.from(x, it[2], it[3]), it[0], it[1], 1);
            doc.all("knot " + k + " goes to", Scene.to(x, it[0], it[1]), it[2], it[3], 1);
        }
    }

    private static void calls512() {
        doc.says("What it is", "An object is used for at most 512 calls after it has been made; what later calls answer is "
            + "free.");
        BentPicture x = Scene.first();
        doc.due("the first call", x.insert(2, 1, 2, 1), 4);
        for (int i = 0; i < (CALLS - 2) / 2; i++) {
            doc.due("there", x.move(4, 3, 1), 0);
            doc.due("and back", x.move(4, 2, 1), 0);
        }
        doc.due("the 512th call", x.knot(4, 2), 2);
        BentPicture y = new BentPicture();
        doc.due("the first call", y.size(20, 20), true);
        for (int i = 0; i < (CALLS - 2) / 2; i++) {
            doc.due("in", y.insert(1 + i % 18, 1 + i / 18, 1 + i % 18, 1 + i / 18), 4);
            // Within the edge of two triangles it has four, so a new size takes it away there.
            boolean gone = i % 18 == i / 18 ? y.size(20, 20) : y.out(4) == 0;
            doc.due("and out", gone, true);
        }
        doc.due("the 512th call", y.count(2), 4);
    }

    /** The face of the document, member by member as it is written there, is the face of the class. */
    private static void face(String document, String source) {
        doc.shows("The public face");
        Matcher block = Pattern.compile("(?s)```java\n(.*?)```").matcher(document);
        List<String> due = block.find() ? members(block.group(1)) : List.of();
        List<String> got = members(source);
        doc.due("the document has a face", !due.isEmpty(), true);
        doc.due("members of the face", got.size(), due.size());
        for (int i = 0; i < due.size() && i < got.size(); i++) {
            doc.due(due.get(i) + ", got " + got.get(i), got.get(i).equals(due.get(i)), true);
        }
    }

    private static List<String> members(String text) {
        List<String> found = new ArrayList<>();
        for (String line : text.split("\n")) {
            if (line.trim().startsWith("public ")) {
                found.add(line.trim().replaceAll("( \\{|;)$", ""));
            }
        }
        return found;
    }

    /** "Ahead of the calls .. the interface says": each group stands in the class behind its heading. */
    private static void groups(String document, String source) {
        doc.shows("The terms' last lines");
        Matcher group = Pattern.compile("Ahead of the calls? (.*?) the interface says: (---- .*?)\\.\n").matcher(document);
        int groups = 0;
        while (group.find()) {
            groups++;
            String[] calls = group.group(1).replaceAll("[` ]", "").split(",");
            int heading = source.indexOf("    // " + group.group(2) + "\n");
            doc.due(group.group(2) + " stands in the class", heading >= 0, true);
            int next = source.indexOf("    // ----", heading + 8);
            String part = source.substring(Math.max(0, heading), next < 0 ? source.length() : next);
            Matcher member = Pattern.compile("public \\w+ (\\w+)\\(").matcher(part);
            List<String> found = new ArrayList<>();
            while (member.find()) {
                found.add(member.group(1));
            }
            doc.due(group.group(2) + " " + found, found.equals(Arrays.asList(calls)), true);
        }
        doc.due("groups of calls", groups, 3);
    }

    private static void whatIsFree() throws IOException {
        doc.says("Not promised", "How the state is held inside the object is free, as are the speed of each call, the text "
            + "of toString and the behaviour of equals and hashCode.");
        String source = Files.readString(SOURCE);
        for (String word : List.of("toString", "equals", "hashCode")) {
            doc.due("no " + word + " of its own", source.contains(word), false);
        }
    }

    /** Two objects, each used by one thread: what an object of one thread alone answers is told by both. */
    private static void oneThreadEach() throws InterruptedException {
        doc.says("Not promised", "Use of one object from several threads at once is not promised to be safe.");
        Map<Integer, int[]> seen = new TreeMap<>();
        List<Thread> threads = new ArrayList<>();
        for (int i = 0; i < SCENES.size(); i++) {
            int number = i;
            Thread thread = new Thread(() -> {
                int[] look = Scene.look(SCENES.get(number));
                synchronized (seen) {
                    seen.put(number, look);
                }
            });
            threads.add(thread);
            thread.start();
        }
        for (Thread thread : threads) {
            thread.join();
        }
        for (int i = 0; i < SCENES.size(); i++) {
            doc.all("an object for each thread", seen.get(i), Scene.look(SCENES.get(i)));
        }
    }

    private static void nothingBeyond() {
        doc.says("Not promised", "Nothing is promised beyond the answers and state changes described above, and nothing "
            + "about an object after its 512th call.");
        Map<String, ToIntFunction<BentPicture>> questions = questions();
        for (Supplier<BentPicture> scene : SCENES) {
            questions.forEach((call, ask) -> doc.stays(call, scene, ask, ask.applyAsInt(scene.get())));
        }
        objectsApart();
    }

    /** Calls that ask: no change of state is described for them. */
    private static Map<String, ToIntFunction<BentPicture>> questions() {
        Map<String, ToIntFunction<BentPicture>> all = new TreeMap<>();
        all.put("value", x -> x.value(1, 1, true) + x.value(1, 1, false));
        all.put("knot", x -> x.knot(4, 4));
        all.put("triangle", x -> x.triangle(1, 5));
        all.put("edge", x -> x.edge(0, 4, 3) + x.edge(0, 2, 3));
        all.put("count", x -> x.count(5) + x.count(8) + x.count(9));
        all.put("find", x -> x.find(2, 1, false) + x.find(2, 1, true));
        all.put("share", x -> x.share(2, 1, 0));
        all.put("from", x -> x.from(2, 1, 0));
        all.put("to", x -> x.to(2, 1, 0));
        all.put("nearest", x -> x.nearest(2, 1));
        all.put("blend", x -> x.blend(2, 1, 0));
        all.put("uses", x -> x.uses(2, 1));
        all.put("lost", BentPicture::lost);
        all.put("trace", x -> x.trace(2, 1, 7));
        all.put("loops", BentPicture::loops);
        all.put("room", x -> x.room(4, NONE) + x.room(4, 1));
        all.put("reach", x -> x.reach(4, 1, 0) + x.reach(4, 0, 1));
        all.put("bent", x -> x.bent(4));
        all.put("stretch", x -> x.stretch(2) + x.stretch(4));
        return all;
    }

    /** What is done to one object is not seen at another one, and not at one that is made behind it. */
    private static void objectsApart() {
        int[] first = Scene.look(Scene::first);
        BentPicture other = new BentPicture();
        for (Supplier<BentPicture> scene : SCENES) {
            BentPicture x = scene.get();
            x.carry();
            x.paint(1, 1, 9);
            x.insert(1, 1, 1, 1);
            x.size(20, 20);
            doc.all("an object made before", Scene.values(other), new int[20]);
            doc.all("an object made behind", Scene.look(Scene::first), first);
        }
        doc.all("its net", Scene.net(other), 0, 1, 2, 0, 2, 3);
        doc.due("its size", other.count(0) * 100 + other.count(1), 504);
    }
}
