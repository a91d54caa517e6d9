import java.io.IOException;
import java.math.BigInteger;
import java.util.Arrays;
import java.util.List;
import java.util.function.Supplier;

/** The bounds that the promises 1 to 5 name, sentence by sentence: the object, its size, its values. */
final class PictureBoundsTest {
    private static final int NONE = BentPicture.NONE;
    private static Sentences doc;

    private PictureBoundsTest() {
    }

    public static void main(String[] args) throws IOException {
        doc = new Sentences("PictureBoundsTest");
        constants();
        newObject();
        sizeTaken();
        sizeRefused();
        paintTaken();
        paintRefused();
        weave();
        valueTold();
        valueOfNone();
        doc.end("Constants", "Promise 1", "Promise 2", "Promise 3", "Promise 4", "Promise 5");
    }

    private static void constants() {
        doc.says("Constants", "There is none.");
        doc.due("NONE", BentPicture.NONE, -1);
    }

    /** All as at first: the dots, their values, the corners, the two triangles. */
    private static void isAtFirst(BentPicture x, int w, int h) {
        String what = w + " by " + h + " at first: ";
        int[] counts = new int[9];
        for (int i = 0; i < counts.length; i++) {
            counts[i] = x.count(i);
        }
        doc.all(what + "counts", counts, w, h, 4, 2, 5, 1, 0, 0, 0);
        doc.all(what + "corner 0", Scene.homeAndPlace(x, 0), 0, 0, 0, 0);
        doc.all(what + "corner 1", Scene.homeAndPlace(x, 1), w - 1, 0, w - 1, 0);
        doc.all(what + "corner 2", Scene.homeAndPlace(x, 2), w - 1, h - 1, w - 1, h - 1);
        doc.all(what + "corner 3", Scene.homeAndPlace(x, 3), 0, h - 1, 0, h - 1);
        doc.all(what + "triangles", Scene.net(x), 0, 1, 2, 0, 2, 3);
        doc.all(what + "values", Scene.values(x), new int[w * h]);
        doc.due(what + "the last dot", x.nearest(w - 1, h - 1), w * h - 1);
        doc.due(what + "beyond in x", x.value(w, h - 1, false), NONE);
        doc.due(what + "beyond in y", x.value(w - 1, h, false), NONE);
        doc.due(what + "lost", x.lost(), 0);
    }

    private static void newObject() {
        doc.says("Promise 1", "5 by 4 DOTS.");
        isAtFirst(new BentPicture(), 5, 4);
    }

    private static void sizeTaken() {
        doc.says("Promise 2", "W by H DOTS, all as at first: true.");
        int[][] sizes = {{2, 2}, {2, 20}, {20, 2}, {20, 20}, {2, 3}, {19, 20}, {3, 2}, {20, 19}, {7, 6}, {5, 4}};
        for (int[] s : sizes) {
            BentPicture x = Scene.sides();
            x.nearest(0, 0);
            doc.due("size(" + s[0] + ", " + s[1] + ")", x.size(s[0], s[1]), true);
            isAtFirst(x, s[0], s[1]);
        }
        List<Supplier<BentPicture>> scenes = List.of(Scene::first, Scene::middle, Scene::sides, Scene::twist,
            Scene::thirty, Scene::rim);
        for (Supplier<BentPicture> scene : scenes) {
            for (int[] s : sizes) {
                boolean same = Arrays.equals(Scene.look(() -> resized(scene, s)), Scene.look(() -> Scene.sized(s[0], s[1])));
                doc.due("as a new object of " + s[0] + " by " + s[1], same, true);
            }
        }
        BentPicture x = Scene.sized(20, 20);
        x.weave(1);
        doc.due("smaller", x.size(2, 2), true);
        isAtFirst(x, 2, 2);
        doc.due("greater again", x.size(20, 20), true);
        doc.due("nothing of the woven picture is left", x.count(7), 0);
        BentPicture full = Scene.thirty();
        doc.due("the size that it has, 30 knots", full.size(20, 20), true);
        isAtFirst(full, 20, 20);
        doc.due("the next knot is number 4 again", full.insert(9, 8, 9, 8), 4);
    }

    private static BentPicture resized(Supplier<BentPicture> scene, int[] size) {
        BentPicture x = scene.get();
        x.nearest(0, 0);
        x.size(size[0], size[1]);
        return x;
    }

    private static void sizeRefused() {
        doc.says("Promise 2", "false: there can't be so many (all stays).");
        int[] wrong = {1, 0, -1, -2, -20, 21, 22, Scene.LEAST, Scene.MOST};
        int[] right = {2, 5, 20};
        for (int bad : wrong) {
            for (int good : right) {
                refusedSize(bad, good);
                refusedSize(good, bad);
            }
            for (int other : wrong) {
                refusedSize(bad, other);
            }
        }
    }

    private static void refusedSize(int w, int h) {
        doc.stays("size(" + w + ", " + h + ")", Scene::middle, x -> x.size(w, h) ? 1 : 0, 0);
    }

    private static void paintTaken() {
        doc.says("Promise 3", "A VALUE: what it was.");
        BentPicture x = new BentPicture();
        int[][] outermost = {{0, 0}, {4, 0}, {4, 3}, {0, 3}};
        for (int[] dot : outermost) {
            doc.due("from 0 to 15", x.paint(dot[0], dot[1], 15), 0);
            doc.due("from 15 to 15", x.paint(dot[0], dot[1], 15), 15);
            doc.due("from 15 to 0", x.paint(dot[0], dot[1], 0), 15);
            doc.due("from 0 to 1", x.paint(dot[0], dot[1], 1), 0);
            doc.due("from 1 to 14", x.paint(dot[0], dot[1], 14), 1);
            doc.due("14", x.value(dot[0], dot[1], false), 14);
        }
        doc.due("the others stay", x.count(7), 4 * 14);
        x.weave(0);
        doc.due("behind a weave", x.paint(1, 0, 2), 7);
        BentPicture bent = Scene.middle();
        doc.due("a dot that another one takes", bent.value(3, 2, true), Scene.woven(2, 2, 0));
        bent.paint(2, 2, 9);
        doc.due("it takes what was painted", bent.value(3, 2, true), 9);
    }

    private static void paintRefused() {
        doc.says("Promise 3", "NONE: no such DOT, VALUE.");
        for (int[] dot : Scene.beyond(5, 5)) {
            doc.stays("paint(" + dot[0] + ", " + dot[1] + ", 3)", Scene::middle, x -> x.paint(dot[0], dot[1], 3), NONE);
        }
        int[] wrong = {-1, 16, 17, -16, Scene.LEAST, Scene.MOST};
        for (int value : wrong) {
            doc.stays("paint(2, 2, " + value + ")", Scene::middle, x -> x.paint(2, 2, value), NONE);
            doc.stays("paint(5, 2, " + value + ")", Scene::middle, x -> x.paint(5, 2, value), NONE);
        }
        doc.due("0 is one", Scene.middle().paint(2, 2, 0), Scene.woven(2, 2, 0));
        doc.due("15 is one", Scene.middle().paint(2, 2, 15), Scene.woven(2, 2, 0));
    }

    private static void weave() {
        doc.says("Promise 4", "Each DOT's VALUE is (7 x and 13 y and x y and seed) modulo 16, from 0 on: all together.");
        doc.due("weave(0)", Scene.first().weave(0), 170);
        BentPicture low = Scene.first();
        low.weave(-1);
        doc.due("-1 modulo 16, from 0 on", low.value(0, 0, false), 15);
        doc.due("6 modulo 16", low.value(1, 0, false), 6);
        int[] seeds = {0, 1, -1, 15, 16, 17, -15, -16, -17, 1000, -1000, Scene.LEAST, Scene.LEAST + 1, Scene.MOST,
            Scene.MOST - 1, Scene.MOST - 6, Scene.MOST - 7, Scene.MOST - 740, Scene.MOST - 741};
        int[][] sizes = {{2, 2}, {5, 4}, {20, 2}, {2, 20}, {20, 20}};
        for (int[] s : sizes) {
            for (int seed : seeds) {
                weaveOf(s[0], s[1], seed);
            }
        }
    }

    /** Numbers without a bound tell what is due where the sum of the class wraps around. */
    private static void weaveOf(int w, int h, int seed) {
        int[] want = new int[w * h];
        for (int d = 0; d < want.length; d++) {
            long ahead = 7 * (d % w) + 13 * (d / w) + (d % w) * (d / w);
            want[d] = BigInteger.valueOf(ahead).add(BigInteger.valueOf(seed)).mod(BigInteger.valueOf(16)).intValue();
        }
        BentPicture x = Scene.sized(w, h);
        x.paint(1, 1, 9);
        String call = w + " by " + h + ", weave(" + seed + ")";
        doc.due(call, x.weave(seed), Arrays.stream(want).sum());
        doc.all(call + " values", Scene.values(x), want);
    }

    private static void valueTold() {
        doc.says("Promise 5", "VALUE of a DOT, or (bent) that which it takes.");
        BentPicture x = Scene.middle();
        doc.due("at the place of the knot", x.value(3, 2, false), Scene.woven(3, 2, 0));
        doc.due("at the place of the knot, bent", x.value(3, 2, true), Scene.woven(2, 2, 0));
        doc.due("of two as near, bent", x.value(3, 1, true), Scene.woven(2, 1, 0));
        x.straight();
        doc.due("straight, bent", x.value(3, 2, true), Scene.woven(3, 2, 0));
        x.paint(3, 2, 0);
        doc.due("the least", x.value(3, 2, true), 0);
        x.paint(3, 2, 15);
        doc.due("the greatest", x.value(3, 2, true), 15);
        doc.due("the last dot", x.value(4, 4, true), Scene.woven(4, 4, 0));
    }

    private static void valueOfNone() {
        doc.says("Promise 5", "NONE: no such one.");
        doc.noSuchDot("value(bent)", Scene::middle, (x, dotX, dotY) -> x.value(dotX, dotY, true));
        doc.noSuchDot("value", Scene::middle, (x, dotX, dotY) -> x.value(dotX, dotY, false));
        doc.noSuchDot("value(bent)", Scene::sides, (x, dotX, dotY) -> x.value(dotX, dotY, true));
        doc.noSuchDot("value", Scene::first, (x, dotX, dotY) -> x.value(dotX, dotY, false));
        doc.noSuchDot("value", () -> Scene.sized(20, 20), (x, dotX, dotY) -> x.value(dotX, dotY, false));
        doc.noSuchDot("value", () -> Scene.sized(2, 2), (x, dotX, dotY) -> x.value(dotX, dotY, false));
    }
}
