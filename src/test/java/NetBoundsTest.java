import java.io.IOException;
import java.util.Arrays;

/** The bounds that the promises 6 to 15 name, sentence by sentence: the net. */
final class NetBoundsTest {
    private static final int NONE = BentPicture.NONE;
    private static final int[] NO_KNOT = {-1, -2, Scene.LEAST, Scene.MOST, 32, 64, 1 << 10};
    private static Sentences doc;

    private NetBoundsTest() {
    }

    public static void main(String[] args) throws IOException {
        doc = new Sentences("NetBoundsTest");
        insertTaken();
        insertRefused();
        move();
        turn();
        out();
        straight();
        carry();
        knotTold();
        knotOfNone();
        triangleTold();
        triangleOfNone();
        edgeTold();
        edgeOfNone();
        countTold();
        countOfNone();
        doc.end("Promise 6", "Promise 7", "Promise 8", "Promise 9", "Promise 10", "Promise 11", "Promise 12",
            "Promise 13", "Promise 14", "Promise 15");
    }

    private static void insertTaken() {
        doc.says("Promise 6", "INSERT: its number.");
        BentPicture x = Scene.sized(20, 20);
        for (int i = 0; i < 26; i++) {
            int homeX = 1 + 3 * (i % 5);
            int homeY = 2 + 3 * (i / 5);
            doc.due("knot " + (4 + i), x.insert(homeX, homeY, homeX, homeY), 4 + i);
        }
        doc.due("30 knots", x.count(2), 30);
        doc.due("one goes", x.out(29), 0);
        doc.due("its number is given again", x.insert(19, 9, 19, 9), 29);
        BentPicture rim = Scene.rim();
        doc.due("30 knots on the sides", rim.count(2), 30);
        doc.due("one goes from a side", rim.out(21), 0);
        doc.due("the next one is the last one", rim.insert(18, 0, 18, 0), 29);
        doc.due("the 30th", rim.count(2), 30);
    }

    private static void insertRefused() {
        doc.says("Promise 6", "0 less the reason: REFUSED.");
        doc.stays("1: no such dot", Scene::middle, x -> x.insert(5, 2, 3, 2), -1);
        doc.stays("2: a knot has that home", Scene::middle, x -> x.insert(2, 2, 2, 2), -2);
        doc.stays("3: not on its side", Scene::middle, x -> x.insert(2, 0, 2, 1), -3);
        doc.stays("4: a fold", Scene::middle, x -> x.insert(2, 1, 2, 3), -4);
        doc.stays("5: 30 knots", Scene::thirty, x -> x.insert(18, 18, 18, 18), -5);
        doc.stays("5: 30 knots on the sides", Scene::rim, x -> x.insert(10, 10, 10, 10), -5);
        doc.stays("5: 30 knots, one more on a side", Scene::rim, x -> x.insert(19, 9, 19, 9), -5);
    }

    private static void move() {
        doc.says("Promise 7", "MOVE: 0, or the reason.");
        doc.due("0", Scene.middle().move(4, 2, 2), 0);
        doc.stays("1: no such knot", Scene::middle, x -> x.move(5, 2, 2), 1);
        doc.stays("2: it has that place", Scene::middle, x -> x.move(4, 3, 2), 2);
        doc.stays("3: a corner", Scene::middle, x -> x.move(2, 3, 4), 3);
        doc.stays("4: a fold", Scene::middle, x -> x.move(4, 4, 2), 4);
        doc.due("30 knots: 0", Scene.thirty().move(29, 1, 18), 0);
        for (int k : NO_KNOT) {
            doc.stays("1: knot " + k, Scene::sides, x -> x.move(k, 4, 2), 1);
        }
        for (int[] dot : Scene.beyond(5, 5)) {
            doc.stays("1: to " + dot[0] + ", " + dot[1], Scene::middle, x -> x.move(4, dot[0], dot[1]), 1);
        }
    }

    private static void turn() {
        doc.says("Promise 8", "TURN the EDGE of two KNOTS: 0, or the reason.");
        doc.due("0", Scene.first().turn(0, 2), 0);
        doc.due("0, told the other way", Scene.first().turn(2, 0), 0);
        doc.stays("1: no such knot", Scene::first, x -> x.turn(0, 4), 1);
        doc.stays("1: no such knot ahead", Scene::first, x -> x.turn(4, 0), 1);
        doc.stays("2: no edge", Scene::first, x -> x.turn(1, 3), 2);
        doc.stays("2: an edge of one triangle", Scene::first, x -> x.turn(0, 1), 2);
        doc.stays("4: an area not above 0", Scene::middle, x -> x.turn(0, 4), 4);
        for (int k : NO_KNOT) {
            doc.stays("1: 0 and knot " + k, Scene::sides, x -> x.turn(0, k), 1);
            doc.stays("1: knot " + k + " and 0", Scene::sides, x -> x.turn(k, 0), 1);
            doc.stays("1: knot " + k + " twice", Scene::sides, x -> x.turn(k, k), 1);
        }
        doc.due("0 with 30 knots", Scene.thirty().turn(firstToTurn(0), firstToTurn(1)), 0);
    }

    /** One of the two knots of the first edge of the full net that can be turned. */
    private static int firstToTurn(int which) {
        BentPicture x = Scene.thirty();
        for (int one = 0; one < 30; one++) {
            for (int other = one + 1; other < 30; other++) {
                if (x.edge(one, other, 3) == 1) {
                    return which == 0 ? one : other;
                }
            }
        }
        return NONE;
    }

    private static void out() {
        doc.says("Promise 9", "OUT: 0, or the reason.");
        doc.due("0: within", Scene.sides().out(8), 0);
        doc.due("0: right", Scene.sides().out(5), 0);
        doc.due("0: left", Scene.sides().out(7), 0);
        doc.due("0: the last of 30", Scene.thirty().out(29), 0);
        doc.stays("1: no such knot", Scene::sides, x -> x.out(9), 1);
        doc.stays("1: the 31st", Scene::thirty, x -> x.out(30), 1);
        for (int k : NO_KNOT) {
            doc.stays("1: knot " + k, Scene::sides, x -> x.out(k), 1);
        }
        for (int corner = 0; corner < 4; corner++) {
            int k = corner;
            doc.stays("2: corner " + k, Scene::sides, x -> x.out(k), 2);
            doc.stays("2: corner " + k + " at first", Scene::first, x -> x.out(k), 2);
        }
        doc.stays("2: of four above", Scene::sides, x -> x.out(4), 2);
        doc.stays("2: of three below", Scene::sides, x -> x.out(6), 2);
        doc.stays("2: of four within", Scene::middle, x -> x.out(4), 2);
    }

    private static void straight() {
        doc.says("Promise 10", "STRAIGHT: how many KNOTS have another PLACE by it.");
        doc.stays("corners alone", Scene::first, BentPicture::straight, 0);
        doc.stays("all straight", Scene::thirty, BentPicture::straight, 0);
        doc.due("one", Scene.middle().straight(), 1);
        doc.due("one on each side, none within", Scene.sides().straight(), 4);
        BentPicture x = Scene.middle();
        doc.due("back home", x.move(4, 2, 2), 0);
        doc.due("none that is back home", x.straight(), 0);
        x.move(4, 2, 1);
        doc.due("one that went in y alone", x.straight(), 1);
        doc.due("none the second time", x.straight(), 0);
        doc.all("home", Scene.homeAndPlace(x, 4), 2, 2, 2, 2);
    }

    private static void carry() {
        doc.says("Promise 11", "CARRY: how many DOTS have another VALUE by it.");
        doc.stays("straight", Scene::straight, BentPicture::carry, 0);
        doc.stays("straight, 400 dots", Scene::thirty, BentPicture::carry, 0);
        BentPicture even = Scene.middle();
        even.size(5, 5);
        even.insert(2, 2, 3, 2);
        doc.due("all have one value", even.carry(), 0);
        even.paint(2, 2, 15);
        doc.due("the one dot goes to the right", even.carry(), 2);
        doc.due("it is there", even.value(3, 2, false), 15);
        doc.due("it has gone from here", even.value(2, 2, false), 0);
        doc.due("it goes no farther", even.count(7), 15);
        doc.due("nothing takes it", even.carry(), 1);
        doc.due("it is lost", even.count(7), 0);
    }

    private static void knotTold() {
        doc.says("Promise 12", "Of a KNOT, what 0, 1: its HOME's x, y, 2, 3: its PLACE's, 4: how many TRIANGLES have it, "
            + "5: 0 a CORNER, 1 on a SIDE, 2 within.");
        int[][] want = {
            {0, 0, 0, 0, 4, 0}, {6, 0, 6, 0, 1, 0}, {6, 5, 6, 5, 4, 0}, {0, 5, 0, 5, 1, 0},
            {2, 0, 3, 0, 4, 1}, {6, 3, 6, 2, 2, 1}, {4, 5, 3, 5, 3, 1}, {0, 2, 0, 4, 2, 1}, {4, 3, 4, 3, 3, 2}};
        BentPicture x = Scene.sides();
        for (int k = 0; k < want.length; k++) {
            int[] got = new int[6];
            for (int what = 0; what < got.length; what++) {
                got[what] = x.knot(k, what);
            }
            doc.all("knot " + k, got, want[k]);
        }
        BentPicture near = Scene.sized(20, 20);
        near.insert(1, 1, 1, 1);
        near.insert(18, 18, 18, 18);
        doc.due("one off the corner is within", near.knot(4, 5), 2);
        doc.due("one off the last corner is within", near.knot(5, 5), 2);
        doc.due("the 30th", Scene.thirty().knot(29, 1), 17);
    }

    private static void knotOfNone() {
        doc.says("Promise 12", "NONE: there is none such, another what.");
        for (int what = 0; what <= 5; what++) {
            doc.due("knot(9, " + what + ")", Scene.sides().knot(9, what), NONE);
            doc.due("knot(4, " + what + ") at first", Scene.first().knot(4, what), NONE);
            doc.due("knot(30, " + what + ")", Scene.thirty().knot(30, what), NONE);
            for (int k : NO_KNOT) {
                doc.due("knot(" + k + ", " + what + ")", Scene.sides().knot(k, what), NONE);
            }
        }
        for (int what : new int[] {-1, 6, 7, Scene.LEAST, Scene.MOST}) {
            doc.due("knot(8, " + what + ")", Scene.sides().knot(8, what), NONE);
            doc.due("knot(0, " + what + ")", Scene.first().knot(0, what), NONE);
            doc.due("knot(9, " + what + ")", Scene.sides().knot(9, what), NONE);
        }
        BentPicture x = Scene.sides();
        x.out(8);
        doc.due("the last one has gone", x.knot(8, 0), NONE);
    }

    private static void triangleTold() {
        doc.says("Promise 13", "Of a TRIANGLE, what 0 to 2: its KNOTS, 3: AREA of HOMES, 4: of PLACES, 5: DOTS of the bent "
            + "picture that lie in it.");
        int[][] want = {
            {0, 2, 6, 10, 15, 11}, {0, 4, 8, 6, 9, 7}, {0, 6, 7, 8, 12, 8}, {0, 8, 2, 2, 2, 1},
            {1, 5, 4, 12, 6, 6}, {2, 4, 5, 8, 9, 5}, {2, 8, 4, 2, 4, 1}, {3, 7, 6, 12, 3, 3}};
        triangles(Scene.sides(), want);
        triangles(Scene.sized(2, 2), new int[][] {{0, 1, 2, 1, 1, 3}, {0, 2, 3, 1, 1, 1}});
        triangles(Scene.sized(20, 20), new int[][] {{0, 1, 2, 361, 361, 210}, {0, 2, 3, 361, 361, 190}});
        BentPicture thin = Scene.sized(7, 9);
        thin.insert(2, 3, 5, 7);
        thin.insert(3, 4, 1, 1);
        doc.all("the thin one", Scene.knots(thin, 5), 2, 4, 5);
        doc.due("each of its dots lies in another one before it", thin.triangle(5, 5), 0);
        doc.due("it has an area", thin.triangle(5, 4), 2);
    }

    private static void triangles(BentPicture x, int[][] want) {
        doc.due("how many", x.count(3), want.length);
        for (int t = 0; t < want.length; t++) {
            int[] got = new int[6];
            for (int what = 0; what < got.length; what++) {
                got[what] = x.triangle(t, what);
            }
            doc.all("triangle " + t, got, want[t]);
        }
    }

    private static void triangleOfNone() {
        doc.says("Promise 13", "NONE: there is none such, another what.");
        for (int what = 0; what <= 5; what++) {
            doc.due("triangle(8, " + what + ")", Scene.sides().triangle(8, what), NONE);
            doc.due("triangle(2, " + what + ") at first", Scene.first().triangle(2, what), NONE);
            doc.due("triangle(54, " + what + ")", Scene.thirty().triangle(54, what), NONE);
            doc.due("triangle(53, " + what + ") is one", Scene.thirty().triangle(53, what) >= 0, true);
            for (int t : new int[] {-1, -2, 64, Scene.LEAST, Scene.MOST}) {
                doc.due("triangle(" + t + ", " + what + ")", Scene.sides().triangle(t, what), NONE);
            }
        }
        for (int what : new int[] {-1, 6, 7, Scene.LEAST, Scene.MOST}) {
            doc.due("triangle(0, " + what + ")", Scene.sides().triangle(0, what), NONE);
            doc.due("triangle(7, " + what + ")", Scene.sides().triangle(7, what), NONE);
            doc.due("triangle(8, " + what + ")", Scene.sides().triangle(8, what), NONE);
        }
    }

    private static int[] edge(BentPicture x, int one, int other) {
        return new int[] {x.edge(one, other, 0), x.edge(one, other, 1), x.edge(one, other, 2), x.edge(one, other, 3)};
    }

    private static void edgeTold() {
        doc.says("Promise 14", "Of the EDGE of two KNOTS, what 0: how many TRIANGLES have it, 1: the square of its length by "
            + "HOMES, 2: by PLACES, 3: 1 if it can be TURNED, else 0.");
        int[][] want = {
            {0, 2, 2, 61, 61, 1}, {0, 6, 2, 41, 34, 1}, {0, 8, 2, 25, 25, 0}, {4, 8, 2, 13, 10, 0}, {2, 8, 2, 8, 8, 0},
            {4, 5, 2, 25, 13, 0}, {2, 4, 2, 41, 34, 1}, {6, 7, 2, 25, 10, 0}, {0, 4, 1, 4, 9, 0}, {1, 4, 1, 16, 9, 0},
            {1, 5, 1, 9, 4, 0}, {2, 5, 1, 4, 9, 0}, {2, 6, 1, 4, 9, 0}, {3, 6, 1, 16, 9, 0}, {3, 7, 1, 9, 1, 0},
            {0, 7, 1, 4, 16, 0}};
        BentPicture x = Scene.sides();
        doc.due("all edges", x.count(4), want.length);
        for (int[] e : want) {
            int[] due = Arrays.copyOfRange(e, 2, 6);
            doc.all("edge " + e[0] + ", " + e[1], edge(x, e[0], e[1]), due);
            doc.all("edge " + e[1] + ", " + e[0], edge(x, e[1], e[0]), due);
            doc.due("turn(" + e[0] + ", " + e[1] + ")", Scene.sides().turn(e[0], e[1]) == 0, e[5] == 1);
        }
        doc.all("the longest", edge(Scene.sized(20, 20), 0, 2), 2, 722, 722, 1);
        doc.all("the shortest", edge(Scene.sized(2, 2), 0, 1), 1, 1, 1, 0);
    }

    private static void edgeOfNone() {
        doc.says("Promise 14", "NONE: it is none, another what.");
        for (int what = 0; what <= 3; what++) {
            int w = what;
            doc.due("no edge", Scene.first().edge(1, 3, w), NONE);
            doc.due("no edge any more: a knot is within it", Scene.sides().edge(0, 1, w), NONE);
            doc.due("one knot", Scene.sides().edge(8, 8, w), NONE);
            doc.due("the knot behind the last", Scene.sides().edge(0, 9, w), NONE);
            doc.due("the knot behind the last, ahead", Scene.sides().edge(9, 0, w), NONE);
            doc.due("the 31st knot", Scene.thirty().edge(29, 30, w), NONE);
            for (int k : NO_KNOT) {
                doc.due("edge(0, " + k + ", " + w + ")", Scene.sides().edge(0, k, w), NONE);
                doc.due("edge(" + k + ", 0, " + w + ")", Scene.sides().edge(k, 0, w), NONE);
                doc.due("edge(" + k + ", " + k + ", " + w + ")", Scene.sides().edge(k, k, w), NONE);
            }
            BentPicture turned = Scene.first();
            turned.turn(0, 2);
            doc.due("none any more: turned", turned.edge(0, 2, w), NONE);
            doc.due("one now: turned", turned.edge(1, 3, w) >= 0, true);
        }
        for (int what : new int[] {-1, 4, 5, Scene.LEAST, Scene.MOST}) {
            doc.due("edge(0, 2, " + what + ")", Scene.first().edge(0, 2, what), NONE);
            doc.due("edge(0, 1, " + what + ")", Scene.first().edge(0, 1, what), NONE);
            doc.due("edge(1, 3, " + what + ")", Scene.first().edge(1, 3, what), NONE);
        }
    }

    private static int[] counts(BentPicture x) {
        int[] all = new int[10];
        for (int what = 0; what < all.length; what++) {
            all[what] = x.count(what);
        }
        return all;
    }

    private static void countTold() {
        doc.says("Promise 15", "What 0: W, 1: H, 2: KNOTS, 3: TRIANGLES, 4: EDGES, 5: EDGES that can be TURNED, 6: KNOTS "
            + "whose PLACE is not their HOME, 7: all VALUES together, 8: all VALUES that DOTS take together, 9: DOTS of "
            + "the bent picture that more than one TRIANGLE has.");
        doc.all("at first", counts(Scene.first()), 5, 4, 4, 2, 5, 1, 0, 0, 0, 2);
        doc.all("2 by 2", counts(Scene.sized(2, 2)), 2, 2, 4, 2, 5, 1, 0, 0, 0, 2);
        doc.all("20 by 20", counts(Scene.sized(20, 20)), 20, 20, 4, 2, 5, 1, 0, 0, 0, 20);
        int[] sides = counts(Scene.sides());
        doc.all("sides", Arrays.copyOf(sides, 7), 7, 6, 9, 8, 16, 3, 4);
        doc.due("sides: all values", sides[7], Arrays.stream(Scene.values(Scene.sides())).sum());
        doc.due("sides: dots of more than one triangle", sides[9], 8);
        doc.all("30 knots within", Arrays.copyOf(counts(Scene.thirty()), 5), 20, 20, 30, 54, 83);
        doc.all("30 knots on the sides", Arrays.copyOf(counts(Scene.rim()), 5), 20, 20, 30, 28, 57);
        BentPicture turned = Scene.first();
        turned.turn(0, 2);
        doc.due("turned: to turn", turned.count(5), 1);
        doc.due("values that dots take, asked first", Scene.middle().count(8), takenInMiddle());
        BentPicture x = Scene.middle();
        doc.due("middle: to turn", x.count(5), 0);
        doc.due("middle: dots of more than one triangle", x.count(9), 5);
        x.size(5, 5);
        x.insert(2, 2, 3, 2);
        x.paint(2, 2, 15);
        doc.due("all values", x.count(7), 15);
        doc.due("one dot takes it", x.count(8), 15);
        x.paint(1, 1, 15);
        doc.due("all values", x.count(7), 30);
        doc.due("one dot and two dots", x.count(8), 45);
        x.paint(3, 2, 15);
        doc.due("all values", x.count(7), 45);
        doc.due("no dot takes that one", x.count(8), 45);
        doc.due("the greatest that all can be", full().count(7), 6000);
        doc.due("the greatest that all can take", full().count(8), 6000);
    }

    private static int takenInMiddle() {
        int sum = 0;
        for (int d : Scene.nearest(Scene.middle())) {
            sum += Scene.woven(d % 5, d / 5, 0);
        }
        return sum;
    }

    private static BentPicture full() {
        BentPicture x = Scene.sized(20, 20);
        for (int d = 0; d < 400; d++) {
            x.paint(d % 20, d / 20, 15);
        }
        return x;
    }

    private static void countOfNone() {
        doc.says("Promise 15", "NONE for another what.");
        for (int what : new int[] {-1, -2, 10, 11, Scene.LEAST, Scene.MOST}) {
            doc.due("count(" + what + ")", Scene.sides().count(what), NONE);
            doc.due("count(" + what + ") at first", Scene.first().count(what), NONE);
        }
    }
}
