import java.util.ArrayList;
import java.util.List;
import java.util.function.Supplier;

/** Pictures with a net, made anew for each look, and what there is to see of one. */
final class Scene {
    static final int LEAST = Integer.MIN_VALUE;
    static final int MOST = Integer.MAX_VALUE;

    private Scene() {
    }

    static BentPicture first() {
        return new BentPicture();
    }

    static BentPicture sized(int w, int h) {
        BentPicture x = new BentPicture();
        x.size(w, h);
        return x;
    }

    /** 5 by 5, a knot with its home in the middle and its place one to the right of it. */
    static BentPicture middle() {
        BentPicture x = sized(5, 5);
        x.weave(0);
        x.insert(2, 2, 3, 2);
        return x;
    }

    /** The same, but nothing is bent. */
    static BentPicture straight() {
        BentPicture x = sized(5, 5);
        x.weave(0);
        x.insert(2, 2, 2, 2);
        return x;
    }

    /** 7 by 6, a knot on each side (4 above, 5 right, 6 below, 7 left), all moved along it, and the knot 8 within. */
    static BentPicture sides() {
        BentPicture x = sized(7, 6);
        x.weave(5);
        x.insert(2, 0, 3, 0);
        x.insert(6, 3, 6, 2);
        x.insert(4, 5, 3, 5);
        x.insert(0, 2, 0, 4);
        x.insert(4, 3, 4, 3);
        return x;
    }

    /** 5 by 6, two knots that go round each other: the dots 11 and 12 are nearest of each other, so are 17 and 18. */
    static BentPicture twist() {
        BentPicture x = sized(5, 6);
        x.weave(0);
        x.insert(1, 1, 3, 2);
        x.insert(3, 4, 1, 3);
        return x;
    }

    /** 20 by 20, 30 knots, 26 of them within; the last one is of three triangles. */
    static BentPicture thirty() {
        BentPicture x = sized(20, 20);
        x.weave(3);
        for (int i = 0; i < 26; i++) {
            x.insert(1 + 3 * (i % 5), 2 + 3 * (i / 5), 1 + 3 * (i % 5), 2 + 3 * (i / 5));
        }
        return x;
    }

    /** 20 by 20, 30 knots, all on the sides. */
    static BentPicture rim() {
        BentPicture x = sized(20, 20);
        x.weave(3);
        for (int i = 1; i <= 18; i++) {
            x.insert(i, 0, i, 0);
        }
        for (int i = 1; i <= 8; i++) {
            x.insert(0, i, 0, i);
        }
        return x;
    }

    static int[] knots(BentPicture x, int t) {
        return new int[] {x.triangle(t, 0), x.triangle(t, 1), x.triangle(t, 2)};
    }

    /** The knots of all triangles, one triangle behind the other. */
    static int[] net(BentPicture x) {
        int[] all = new int[3 * x.count(3)];
        for (int i = 0; i < all.length; i++) {
            all[i] = x.triangle(i / 3, i % 3);
        }
        return all;
    }

    static int[] homeAndPlace(BentPicture x, int k) {
        return new int[] {x.knot(k, 0), x.knot(k, 1), x.knot(k, 2), x.knot(k, 3)};
    }

    static int[] shares(BentPicture x, int dotX, int dotY) {
        return new int[] {x.share(dotX, dotY, 0), x.share(dotX, dotY, 1), x.share(dotX, dotY, 2),
            x.share(dotX, dotY, 3)};
    }

    static int[] from(BentPicture x, int dotX, int dotY) {
        return new int[] {x.from(dotX, dotY, 0), x.from(dotX, dotY, 1), x.from(dotX, dotY, 2)};
    }

    static int[] to(BentPicture x, int dotX, int dotY) {
        return new int[] {x.to(dotX, dotY, 0), x.to(dotX, dotY, 1), x.to(dotX, dotY, 2)};
    }

    static int[] blend(BentPicture x, int dotX, int dotY) {
        return new int[] {x.blend(dotX, dotY, 0), x.blend(dotX, dotY, 1)};
    }

    static int[] nearest(BentPicture x) {
        int w = x.count(0);
        int[] all = new int[w * x.count(1)];
        for (int d = 0; d < all.length; d++) {
            all[d] = x.nearest(d % w, d / w);
        }
        return all;
    }

    static int[] values(BentPicture x) {
        int w = x.count(0);
        int[] all = new int[w * x.count(1)];
        for (int d = 0; d < all.length; d++) {
            all[d] = x.value(d % w, d / w, false);
        }
        return all;
    }

    static int woven(int x, int y, int seed) {
        return Math.floorMod(7L * x + 13L * y + (long) x * y + seed, 16);
    }

    /** Numbers that are none of a dot, beyond each side; some would give the number of a dot that there is. */
    static int[][] beyond(int w, int h) {
        int wrap = 1 << 30;
        return new int[][] {{-1, 0}, {-1, 1}, {-1, h - 1}, {w, 0}, {w, h - 2}, {w, h - 1}, {0, -1}, {w - 1, -1},
            {0, h}, {w - 1, h}, {-1, -1}, {w, -1}, {-1, h}, {w, h}, {w, -h}, {LEAST, 0}, {MOST, 0}, {0, LEAST},
            {0, MOST}, {MOST, MOST}, {LEAST, LEAST}, {0, wrap}, {wrap, 0}, {1, 4 * (wrap / w + 1)}, {-w, 1}, {h, w}};
    }

    /** All that an object tells of its state; each part is asked of a new object, so that none has over 512 calls. */
    static int[] look(Supplier<BentPicture> scene) {
        List<Integer> seen = new ArrayList<>();
        BentPicture x = scene.get();
        int w = x.count(0);
        int h = x.count(1);
        for (int what = 0; what <= 9; what++) {
            seen.add(x.count(what));
        }
        lookAtKnots(scene.get(), seen);
        lookAtTriangles(scene.get(), seen);
        lookAtEdges(scene.get(), seen);
        lookAtWhatWouldBe(scene.get(), seen);
        for (int y = 0; y < h; y++) {
            lookAtRow(scene.get(), w, y, seen);
        }
        return seen.stream().mapToInt(Integer::intValue).toArray();
    }

    private static void lookAtKnots(BentPicture x, List<Integer> seen) {
        for (int k = 0; k <= x.count(2); k++) {
            for (int what = 0; what <= 5; what++) {
                seen.add(x.knot(k, what));
            }
        }
    }

    private static void lookAtTriangles(BentPicture x, List<Integer> seen) {
        for (int t = 0; t <= x.count(3); t++) {
            for (int what = 0; what <= 5; what++) {
                seen.add(x.triangle(t, what));
            }
        }
    }

    private static void lookAtEdges(BentPicture x, List<Integer> seen) {
        int knots = x.count(2);
        for (int one = 0; one < knots; one++) {
            for (int other = one + 1; other < knots; other++) {
                seen.add(x.edge(one, other, 3));
            }
        }
    }

    private static void lookAtWhatWouldBe(BentPicture x, List<Integer> seen) {
        for (int k = 0; k <= x.count(2); k++) {
            seen.add(x.room(k, BentPicture.NONE));
            seen.add(x.room(k, 0));
            seen.add(x.reach(k, 1, 0));
            seen.add(x.reach(k, 0, -1));
        }
        for (int t = 0; t <= 8; t++) {
            seen.add(x.bent(t));
        }
        for (int what = 0; what <= 5; what++) {
            seen.add(x.stretch(what));
        }
        seen.add(x.lost());
        seen.add(x.loops());
    }

    private static void lookAtRow(BentPicture x, int w, int y, List<Integer> seen) {
        for (int i = 0; i < w; i++) {
            seen.add(x.value(i, y, false));
            seen.add(x.value(i, y, true));
            seen.add(x.find(i, y, false));
            seen.add(x.find(i, y, true));
            seen.add(x.nearest(i, y));
            seen.add(x.uses(i, y));
        }
    }
}
