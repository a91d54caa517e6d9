import java.io.IOException;
import java.util.List;
import java.util.function.Supplier;

/** Section 1 of the terms, sentence by sentence: the picture and its net. */
final class NetTermsTest {
    private static final String SECTION = "Terms 1";
    private static final int NONE = BentPicture.NONE;
    private static final List<Supplier<BentPicture>> NETS = List.of(Scene::first, Scene::middle, Scene::straight,
        Scene::sides, Scene::twist, Scene::thirty, Scene::rim, () -> Scene.sized(2, 2), () -> Scene.sized(20, 2),
        () -> Scene.sized(2, 20), () -> Scene.sized(20, 20), () -> worked(1), () -> worked(2), () -> worked(3),
        () -> worked(4), () -> worked(5));
    private static Sentences doc;

    private NetTermsTest() {
    }

    public static void main(String[] args) throws IOException {
        doc = new Sentences("NetTermsTest");
        picture();
        numbers();
        knots();
        corners();
        knotsOnSides();
        area();
        triangles();
        coverByHomes();
        trianglesAtFirst();
        trianglesInOrder();
        fold();
        neverAFold();
        coverByPlaces();
        doc.end(SECTION);
    }

    /** A net behind many acts of all kinds, some of them refused; no clock and no chance tells which. */
    private static BentPicture worked(int seed) {
        BentPicture x = Scene.sized(9, 8);
        long state = seed;
        for (int i = 0; i < 80; i++) {
            int[] n = new int[4];
            for (int j = 0; j < 4; j++) {
                state = state * 6364136223846793005L + 1442695040888963407L;
                n[j] = (int) (state >>> 40);
            }
            switch (n[0] % 6) {
                case 0:
                    x.insert(n[1] % 9, n[2] % 8, n[1] % 9, n[2] % 8);
                    break;
                case 1:
                    x.turn(n[1] % 9, n[2] % 9);
                    break;
                case 2:
                    x.out(n[1] % 16);
                    break;
                default:
                    int k = 4 + n[1] % 8;
                    x.move(k, x.knot(k, 2) + n[2] % 3 - 1, x.knot(k, 3) + n[3] % 3 - 1);
                    break;
            }
        }
        return x;
    }

    /** Homes (2 numbers), places (2 numbers) of each knot. */
    private static int[][] knotsOf(BentPicture x) {
        int[][] all = new int[x.count(2)][];
        for (int k = 0; k < all.length; k++) {
            all[k] = Scene.homeAndPlace(x, k);
        }
        return all;
    }

    private static int[][] trianglesOf(BentPicture x) {
        int[][] all = new int[x.count(3)][];
        for (int t = 0; t < all.length; t++) {
            all[t] = Scene.knots(x, t);
        }
        return all;
    }

    /** By the words of the document; at 0 are homes, at 2 places. */
    private static int areaOf(int[] a, int[] b, int[] c, int at) {
        return (b[at] - a[at]) * (c[at + 1] - a[at + 1]) - (c[at] - a[at]) * (b[at + 1] - a[at + 1]);
    }

    private static void picture() {
        doc.says(SECTION, "THE PICTURE has DOTS x, y: 0 to W less 1, 0 to H less 1 (W, H 2 to 20; 5, 4 at first), y going "
            + "down, each with a VALUE, 0 to 15 (0 at first).");
        BentPicture x = Scene.first();
        doc.due("W", x.count(0), 5);
        doc.due("H", x.count(1), 4);
        doc.all("0 at first", Scene.values(x), new int[20]);
        doc.due("the last dot is one", x.paint(4, 3, 15), 0);
        doc.due("15 can be", x.value(4, 3, false), 15);
        doc.due("16 can't be", x.paint(4, 3, 16), NONE);
        doc.due("-1 can't be", x.paint(4, 3, -1), NONE);
        doc.due("0 can be", x.paint(4, 3, 0), 15);
        doc.due("x of W is none", x.value(5, 0, false), NONE);
        doc.due("y of H is none", x.value(0, 4, false), NONE);
        doc.due("x below 0 is none", x.value(-1, 0, false), NONE);
        doc.due("y below 0 is none", x.value(0, -1, false), NONE);
        doc.due("W 2, H 20 can be", x.size(2, 20), true);
        doc.due("W 20, H 2 can be", x.size(20, 2), true);
        doc.due("W 1 can't be", x.size(1, 2), false);
        doc.due("H 1 can't be", x.size(2, 1), false);
        doc.due("W 21 can't be", x.size(21, 2), false);
        doc.due("H 21 can't be", x.size(2, 21), false);
        doc.due("y going down: the corner 3 is below the corner 0", Scene.first().knot(3, 1), 3);
    }

    private static void numbers() {
        doc.says(SECTION, "A DOT's number is y W and x.");
        int[][] sizes = {{3, 7}, {7, 3}, {5, 4}, {2, 2}, {20, 2}, {2, 20}};
        for (int[] s : sizes) {
            BentPicture x = Scene.sized(s[0], s[1]);
            for (int d = 0; d < s[0] * s[1]; d++) {
                doc.due("nearest", x.nearest(d % s[0], d / s[0]), d);
                doc.due("trace", x.trace(d % s[0], d / s[0], 0), d);
            }
            doc.due("room of the corner 2", x.room(2, 0), s[0] * s[1] - 1);
            doc.due("room of the corner 3", x.room(3, 0), (s[1] - 1) * s[0]);
        }
        doc.due("the greatest", Scene.sized(20, 20).nearest(19, 19), 399);
    }

    private static void knots() {
        doc.says(SECTION, "THE NET: KNOTS, 4 to 30, numbered from 0 on, each with a HOME and a PLACE, whole numbers x, y of "
            + "DOTS both; no two have one HOME.");
        doc.due("4 at first", Scene.first().count(2), 4);
        for (int k = 0; k < 4; k++) {
            doc.due("none of the four goes", Scene.first().out(k), 2);
        }
        doc.due("30", Scene.thirty().count(2), 30);
        doc.due("30 on the sides", Scene.rim().count(2), 30);
        doc.due("no 31st", Scene.thirty().insert(18, 18, 18, 18), -5);
        doc.due("number 29 is the last", Scene.thirty().knot(29, 0), 1);
        doc.due("number 30 is none", Scene.thirty().knot(30, 0), NONE);
        for (Supplier<BentPicture> net : NETS) {
            int[][] all = knotsOf(net.get());
            int same = 0;
            int beyond = 0;
            for (int[] a : all) {
                for (int[] b : all) {
                    same += a != b && a[0] == b[0] && a[1] == b[1] ? 1 : 0;
                }
                beyond += net.get().value(a[0], a[1], false) < 0 || net.get().value(a[2], a[3], false) < 0 ? 1 : 0;
            }
            doc.due("knots of one home", same, 0);
            doc.due("homes and places of no dot", beyond, 0);
        }
        BentPicture x = Scene.sized(9, 9);
        doc.due("a home", x.insert(4, 4, 5, 4), 4);
        doc.due("that home again", x.insert(4, 4, 6, 4), -2);
        doc.due("a home that is the place of another one", x.insert(5, 4, 6, 4), 5);
    }

    private static void corners() {
        doc.says(SECTION, "The CORNERS 0, 1, 2, 3: HOMES and PLACES 0, 0; W less 1, 0; W less 1, H less 1; 0, H less 1; they "
            + "stay.");
        for (Supplier<BentPicture> net : NETS) {
            BentPicture x = net.get();
            int right = x.count(0) - 1;
            int low = x.count(1) - 1;
            doc.all("corner 0", Scene.homeAndPlace(x, 0), 0, 0, 0, 0);
            doc.all("corner 1", Scene.homeAndPlace(x, 1), right, 0, right, 0);
            doc.all("corner 2", Scene.homeAndPlace(x, 2), right, low, right, low);
            doc.all("corner 3", Scene.homeAndPlace(x, 3), 0, low, 0, low);
        }
        for (int corner = 0; corner < 4; corner++) {
            int k = corner;
            doc.stays("not moved along its side", Scene::sides, x -> x.move(k, 3, k < 2 ? 0 : 5), 3);
            doc.stays("not moved within", Scene::sides, x -> x.move(k, 1, 1), 3);
            doc.stays("not moved to another corner", Scene::first, x -> x.move(k, k == 0 ? 4 : 0, 0), 3);
            doc.stays("not taken out", Scene::sides, x -> x.out(k), 2);
        }
    }

    private static void knotsOnSides() {
        doc.says(SECTION, "A KNOT whose HOME is on a SIDE (x or y 0 or the greatest) has its PLACE on that SIDE.");
        // A home on each side, a place on it, and one beside it.
        int[][] onSides = {{2, 0, 1, 0, 1, 1}, {4, 2, 4, 1, 3, 1}, {2, 4, 3, 4, 3, 3}, {0, 2, 0, 3, 1, 3}};
        for (int[] s : onSides) {
            doc.stays("insert beside its side", Scene::straight, x -> x.insert(s[0], s[1], s[4], s[5]), -3);
            BentPicture x = Scene.straight();
            doc.due("insert on its side", x.insert(s[0], s[1], s[2], s[3]), 5);
            doc.due("it is on a side", x.knot(5, 5), 1);
            doc.stays("move beside its side", () -> withKnot(s), p -> p.move(5, s[4], s[5]), 3);
            doc.due("move along its side", x.move(5, s[0], s[1]), 0);
        }
        doc.stays("onto another side", Scene::straight, x -> x.insert(2, 0, 0, 2), -3);
        doc.stays("onto the side across", Scene::straight, x -> x.insert(2, 0, 2, 4), -3);
        doc.stays("a home within, a place on a side: a fold", Scene::straight, x -> x.move(4, 0, 2), 4);
        for (Supplier<BentPicture> net : NETS) {
            BentPicture x = net.get();
            int right = x.count(0) - 1;
            int low = x.count(1) - 1;
            int off = 0;
            for (int[] k : knotsOf(x)) {
                off += k[0] == 0 && k[2] != 0 || k[0] == right && k[2] != right ? 1 : 0;
                off += k[1] == 0 && k[3] != 0 || k[1] == low && k[3] != low ? 1 : 0;
            }
            doc.due("knots off their side", off, 0);
        }
    }

    private static BentPicture withKnot(int[] s) {
        BentPicture x = Scene.straight();
        x.insert(s[0], s[1], s[2], s[3]);
        return x;
    }

    private static void area() {
        doc.says(SECTION, "AREA of three points a, b, c: (b x less a x) times (c y less a y), less (c x less a x) times (b y "
            + "less a y).");
        doc.due("4 times 3", Scene.first().triangle(0, 3), 12);
        doc.due("1: the least there is", Scene.sized(2, 2).triangle(1, 3), 1);
        doc.due("361: the greatest there is", Scene.sized(20, 20).triangle(1, 4), 361);
        for (Supplier<BentPicture> net : NETS) {
            BentPicture x = net.get();
            int[][] knots = knotsOf(x);
            for (int[] t : trianglesOf(x)) {
                int number = numberOf(net.get(), t);
                doc.due("by homes", net.get().triangle(number, 3), areaOf(knots[t[0]], knots[t[1]], knots[t[2]], 0));
                doc.due("by places", net.get().triangle(number, 4), areaOf(knots[t[0]], knots[t[1]], knots[t[2]], 2));
            }
        }
    }

    private static int numberOf(BentPicture x, int[] triangle) {
        for (int t = 0; t < x.count(3); t++) {
            if (x.triangle(t, 0) == triangle[0] && x.triangle(t, 1) == triangle[1]) {
                return t;
            }
        }
        return NONE;
    }

    private static void triangles() {
        doc.says(SECTION, "TRIANGLES: three KNOTS each, whose HOMES have an AREA above 0 in the order told, the least KNOT "
            + "first.");
        for (Supplier<BentPicture> net : NETS) {
            int[][] knots = knotsOf(net.get());
            for (int[] t : trianglesOf(net.get())) {
                doc.due("three knots", t[0] >= 0 && t[1] >= 0 && t[2] >= 0 && t[1] != t[2], true);
                doc.due("the least first", t[0] < t[1] && t[0] < t[2], true);
                doc.due("an area above 0", areaOf(knots[t[0]], knots[t[1]], knots[t[2]], 0) > 0, true);
            }
        }
    }

    private static void coverByHomes() {
        doc.says(SECTION, "They cover THE PICTURE by their HOMES, none on another one, no KNOT within one or within an EDGE of "
            + "one.");
        for (Supplier<BentPicture> net : NETS) {
            covers(net, 0);
            int[][] knots = knotsOf(net.get());
            for (int[] t : trianglesOf(net.get())) {
                int strange = 0;
                for (int k = 0; k < knots.length; k++) {
                    boolean own = k == t[0] || k == t[1] || k == t[2];
                    strange += !own && leastArea(knots, t, knots[k][0], knots[k][1], 0) >= 0 ? 1 : 0;
                }
                doc.due("other knots that the triangle has", strange, 0);
            }
        }
    }

    /** Each dot is in a triangle, none is within two, and all areas together are that of the picture, twice. */
    private static void covers(Supplier<BentPicture> net, int at) {
        int w = net.get().count(0);
        int h = net.get().count(1);
        int[][] knots = knotsOf(net.get());
        int[][] triangles = trianglesOf(net.get());
        int sum = 0;
        for (int[] t : triangles) {
            sum += areaOf(knots[t[0]], knots[t[1]], knots[t[2]], at);
        }
        doc.due("all areas", sum, 2 * (w - 1) * (h - 1));
        int bare = 0;
        int twice = 0;
        for (int d = 0; d < w * h; d++) {
            int having = 0;
            int within = 0;
            for (int[] t : triangles) {
                int least = leastArea(knots, t, d % w, d / w, at);
                having += least >= 0 ? 1 : 0;
                within += least > 0 ? 1 : 0;
            }
            bare += having == 0 ? 1 : 0;
            twice += within > 1 || within == 1 && having > 1 ? 1 : 0;
        }
        doc.due("dots of no triangle", bare, 0);
        doc.due("dots within one that are of two", twice, 0);
    }

    private static int leastArea(int[][] knots, int[] t, int x, int y, int at) {
        int[] dot = {x, y, x, y};
        int first = areaOf(dot, knots[t[1]], knots[t[2]], at);
        int second = areaOf(dot, knots[t[2]], knots[t[0]], at);
        int third = areaOf(dot, knots[t[0]], knots[t[1]], at);
        return Math.min(first, Math.min(second, third));
    }

    private static void trianglesAtFirst() {
        doc.says(SECTION, "At first 0, 1, 2 and 0, 2, 3.");
        doc.all("5 by 4", Scene.net(Scene.first()), 0, 1, 2, 0, 2, 3);
        doc.all("2 by 2", Scene.net(Scene.sized(2, 2)), 0, 1, 2, 0, 2, 3);
        doc.all("20 by 20", Scene.net(Scene.sized(20, 20)), 0, 1, 2, 0, 2, 3);
        BentPicture turned = Scene.first();
        turned.turn(0, 2);
        turned.size(5, 4);
        doc.all("at first again", Scene.net(turned), 0, 1, 2, 0, 2, 3);
    }

    private static void trianglesInOrder() {
        doc.says(SECTION, "They are numbered from 0 on by their first, then second, then third KNOT.");
        doc.all("sides", Scene.net(Scene.sides()),
            0, 2, 6, 0, 4, 8, 0, 6, 7, 0, 8, 2, 1, 5, 4, 2, 4, 5, 2, 8, 4, 3, 7, 6);
        doc.all("twist", Scene.net(Scene.twist()), 0, 1, 4, 0, 2, 5, 0, 4, 2, 0, 5, 3, 1, 2, 4, 2, 3, 5);
        for (Supplier<BentPicture> net : NETS) {
            int[][] all = trianglesOf(net.get());
            for (int t = 1; t < all.length; t++) {
                int[] a = all[t - 1];
                int[] b = all[t];
                doc.due("rising", a[0] < b[0] || a[0] == b[0] && (a[1] < b[1] || a[1] == b[1] && a[2] < b[2]), true);
            }
        }
    }

    private static void fold() {
        doc.says(SECTION, "A FOLD: a TRIANGLE the AREA of whose PLACES is not above 0.");
        doc.stays("an area of 0: onto an edge of the rim", Scene::middle, x -> x.move(4, 4, 2), 4);
        doc.stays("an area of 0: onto a corner", Scene::middle, x -> x.move(4, 0, 0), 4);
        doc.stays("an area of 0: insert onto an edge", () -> Scene.sized(5, 5), x -> x.insert(2, 1, 2, 2), -4);
        doc.stays("an area of 0: insert onto a knot", Scene::straight, x -> x.insert(2, 1, 2, 2), -4);
        doc.stays("an area below 0: insert into another triangle", () -> Scene.sized(5, 5),
            x -> x.insert(2, 1, 2, 3), -4);
        doc.stays("an area below 0: over an edge", Scene::sides, x -> x.move(8, 2, 2), 4);
        BentPicture x = Scene.sized(5, 5);
        doc.due("no fold close to an edge", x.insert(2, 1, 3, 2), 4);
        doc.due("close to the right side", x.triangle(3, 4), 4);
        BentPicture thin = Scene.sized(7, 9);
        thin.insert(2, 3, 5, 7);
        thin.insert(3, 4, 1, 1);
        doc.due("a thin one", thin.triangle(5, 4), 2);
        BentPicture least = Scene.sized(3, 2);
        doc.due("an area of 1 is no fold", least.insert(1, 0, 1, 0), 4);
        doc.due("it is 1", least.triangle(1, 4), 1);
    }

    private static void neverAFold() {
        doc.says(SECTION, "There is never one.");
        for (Supplier<BentPicture> net : NETS) {
            BentPicture x = net.get();
            for (int t = 0; t < x.count(3); t++) {
                doc.due("area of places above 0", x.triangle(t, 4) > 0, true);
            }
            doc.due("none at the end of the way", net.get().bent(8), 0);
            doc.due("none at its beginning", net.get().bent(0), 0);
            x.straight();
            for (int t = 0; t < x.count(3); t++) {
                doc.due("straight: area of places above 0", x.triangle(t, 4) > 0, true);
            }
        }
    }

    private static void coverByPlaces() {
        doc.says(SECTION, "(So TRIANGLES cover THE PICTURE by their PLACES, too.)");
        for (Supplier<BentPicture> net : NETS) {
            covers(net, 2);
            BentPicture x = net.get();
            int w = x.count(0);
            int h = x.count(1);
            int dots = 0;
            for (int t = 0; t < x.count(3); t++) {
                dots += x.triangle(t, 5);
            }
            doc.due("each dot lies in one", dots, w * h);
            int nowhere = 0;
            for (int d = 0; d < w * h; d++) {
                nowhere += net.get().find(d % w, d / w, false) == NONE ? 1 : 0;
            }
            doc.due("dots that lie in none", nowhere, 0);
        }
    }
}
