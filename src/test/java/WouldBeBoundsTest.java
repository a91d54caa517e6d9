import java.io.IOException;

/** The bounds that the promises 26 to 29 name, sentence by sentence: what would be. */
final class WouldBeBoundsTest {
    private static final int NONE = BentPicture.NONE;
    private static final int[] NO_KNOT = {-1, -2, Scene.LEAST, Scene.MOST, 32, 64};
    private static Sentences doc;

    private WouldBeBoundsTest() {
    }

    public static void main(String[] args) throws IOException {
        doc = new Sentences("WouldBeBoundsTest");
        roomTold();
        roomOfNone();
        reachTold();
        reachOfNone();
        bentTold();
        bentOfNone();
        stretchTold();
        stretchOfNone();
        doc.end("Promise 26", "Promise 27", "Promise 28", "Promise 29");
    }

    private static int[] room(BentPicture x, int k) {
        int[] all = new int[Math.max(0, x.room(k, NONE))];
        for (int i = 0; i < all.length; i++) {
            all[i] = x.room(k, i);
        }
        return all;
    }

    /** 20 by 20, the knot 4 of a home in the middle at a place. */
    private static BentPicture alone(int x, int y) {
        BentPicture picture = Scene.sized(20, 20);
        picture.insert(9, 9, x, y);
        return picture;
    }

    private static void roomTold() {
        doc.says("Promise 26", "ROOM of a KNOT: how many (i NONE), or the i-th, as a DOT's number, rising.");
        doc.stays("how many", Scene::middle, x -> x.room(4, NONE), 9);
        doc.stays("the first", Scene::middle, x -> x.room(4, 0), 6);
        doc.stays("the last", Scene::middle, x -> x.room(4, 8), 18);
        doc.all("all of middle", room(Scene.middle(), 4), 6, 7, 8, 11, 12, 13, 16, 17, 18);
        doc.all("upper side", room(Scene.sides(), 4), 2, 3, 4, 5);
        doc.all("right side", room(Scene.sides(), 5), 13, 20, 27, 34);
        doc.all("lower side", room(Scene.sides(), 6), 36, 37, 38, 39, 40);
        doc.all("left side", room(Scene.sides(), 7), 7, 14, 21, 28);
        doc.all("within", room(Scene.sides(), 8), 9, 10, 17, 18, 25, 33);
        doc.due("the most: how many", alone(9, 9).room(4, NONE), 324);
        doc.due("the most: the first", alone(9, 9).room(4, 0), 21);
        doc.due("the most: the last", alone(9, 9).room(4, 323), 378);
        int[] corners = {0, 6, 41, 35};
        for (int k = 0; k < 4; k++) {
            doc.all("corner " + k, room(Scene.sides(), k), corners[k]);
        }
        BentPicture least = Scene.sized(3, 3);
        least.insert(1, 1, 1, 1);
        doc.all("its own alone", room(least, 4), 4);
        doc.all("a corner of 2 by 2", room(Scene.sized(2, 2), 2), 3);
    }

    private static void roomOfNone() {
        doc.says("Promise 26", "NONE: there is none such, not so many.");
        doc.stays("the next one", Scene::middle, x -> x.room(4, 9), NONE);
        doc.stays("below NONE", Scene::middle, x -> x.room(4, -2), NONE);
        doc.stays("no such knot: how many", Scene::middle, x -> x.room(5, NONE), NONE);
        doc.stays("no such knot: the first", Scene::middle, x -> x.room(5, 0), NONE);
        doc.due("the next one, of a corner", Scene.sides().room(0, 1), NONE);
        doc.due("the next one, on a side", Scene.sides().room(4, 4), NONE);
        doc.due("the next one of the most", alone(9, 9).room(4, 324), NONE);
        for (int i : new int[] {400, Scene.LEAST, Scene.MOST, -3}) {
            doc.due("room(4, " + i + ")", Scene.middle().room(4, i), NONE);
            doc.due("room(0, " + i + ")", Scene.first().room(0, i), NONE);
        }
        for (int k : NO_KNOT) {
            doc.due("room(" + k + ", NONE)", Scene.sides().room(k, NONE), NONE);
            doc.due("room(" + k + ", 0)", Scene.sides().room(k, 0), NONE);
        }
        doc.due("the 31st knot", Scene.thirty().room(30, NONE), NONE);
        doc.due("the 30th knot", Scene.thirty().room(29, NONE) > 0, true);
    }

    private static void reachTold() {
        doc.says("Promise 27", "How often a KNOT could be MOVED by dx, dy one behind the other.");
        doc.stays("to the left", Scene::middle, x -> x.reach(4, -1, 0), 2);
        doc.stays("to the right", Scene::middle, x -> x.reach(4, 1, 0), 0);
        int[][] far = {{1, 1, 17}, {3, 3, 5}, {3, 0, 5}, {0, 3, 5}, {2, 3, 5}, {3, 1, 5}, {-1, 0, 0}, {-3, -3, 0},
            {1, 0, 17}, {0, 1, 17}, {2, 2, 8}};
        for (int[] s : far) {
            doc.due("from 1, 1 by " + s[0] + ", " + s[1], alone(1, 1).reach(4, s[0], s[1]), s[2]);
            doc.due("from 18, 18 by " + -s[0] + ", " + -s[1], alone(18, 18).reach(4, -s[0], -s[1]), s[2]);
            doc.due("from 18, 1 by " + -s[0] + ", " + s[1], alone(18, 1).reach(4, -s[0], s[1]), s[2]);
            doc.due("from 1, 18 by " + s[0] + ", " + -s[1], alone(1, 18).reach(4, s[0], -s[1]), s[2]);
        }
        doc.due("along the upper side, to the right", Scene.sides().reach(4, 1, 0), 2);
        doc.due("along the upper side, to the left", Scene.sides().reach(4, -1, 0), 1);
        doc.due("off its side", Scene.sides().reach(4, 0, 1), 0);
        doc.due("beyond its side", Scene.sides().reach(4, 0, -1), 0);
        for (int k = 0; k < 4; k++) {
            doc.due("corner " + k, Scene.sides().reach(k, 1, 0) + Scene.sides().reach(k, 0, -1), 0);
        }
        BentPicture x = Scene.middle();
        doc.due("as often as it can be moved", x.move(4, 2, 2) + x.move(4, 1, 2), 0);
        doc.due("and no more", x.move(4, 0, 2), 4);
    }

    private static void reachOfNone() {
        doc.says("Promise 27", "NONE: there is none such, dx or dy beyond -3 to 3, both 0.");
        doc.stays("both 0", Scene::middle, x -> x.reach(4, 0, 0), NONE);
        int[] wrong = {-4, 4, -5, 5, Scene.LEAST, Scene.MOST};
        for (int bad : wrong) {
            for (int good = -3; good <= 3; good++) {
                doc.due("reach(4, " + bad + ", " + good + ")", Scene.middle().reach(4, bad, good), NONE);
                doc.due("reach(4, " + good + ", " + bad + ")", Scene.middle().reach(4, good, bad), NONE);
            }
            doc.due("reach(4, " + bad + ", " + bad + ")", Scene.middle().reach(4, bad, bad), NONE);
        }
        for (int dx = -3; dx <= 3; dx++) {
            for (int dy = -3; dy <= 3; dy++) {
                boolean isStep = dx != 0 || dy != 0;
                doc.due("reach(4, " + dx + ", " + dy + ") is told", Scene.middle().reach(4, dx, dy) >= 0, isStep);
                doc.due("reach(0, " + dx + ", " + dy + ")", Scene.first().reach(0, dx, dy), isStep ? 0 : NONE);
                doc.due("reach(5, " + dx + ", " + dy + ")", Scene.middle().reach(5, dx, dy), NONE);
            }
        }
        for (int k : NO_KNOT) {
            doc.due("reach(" + k + ", 1, 0)", Scene.sides().reach(k, 1, 0), NONE);
        }
        doc.due("the 31st knot", Scene.thirty().reach(30, 1, 0), NONE);
    }

    /** Its triangle 2, 5, 4 has an area of 0 at t 2: on the way from 1 to 6 it goes through 20, 0 and 4 by 64. */
    private static BentPicture flatOnTheWay() {
        BentPicture x = Scene.sized(9, 10);
        x.insert(1, 7, 1, 7);
        x.insert(4, 8, 4, 8);
        x.move(4, 2, 3);
        x.move(5, 2, 4);
        return x;
    }

    /** Its triangle 2, 5, 4 has an area of 1 by homes and by places, and one below 0 from t 2 to t 6. */
    private static BentPicture foldedOnTheWay() {
        BentPicture x = Scene.sized(9, 8);
        x.insert(7, 3, 7, 3);
        x.insert(7, 4, 7, 4);
        x.move(5, 7, 6);
        x.move(4, 4, 2);
        return x;
    }

    /** Its triangle 2, 5, 4 has an area of (3 t less 8) squared by 64 on the way: 1 at t 3, never 0. */
    private static BentPicture thinOnTheWay() {
        BentPicture x = Scene.sized(7, 9);
        x.insert(1, 0, 1, 0);
        x.insert(4, 5, 4, 5);
        x.move(4, 4, 0);
        x.move(5, 4, 2);
        return x;
    }

    /** Its triangle 0 (of the knots 0, 4, 7) has an area of 8, -2, 0, 14 by 64 at t 2 to 5. */
    private static BentPicture firstFoldedOnTheWay() {
        BentPicture x = Scene.sized(7, 7);
        x.insert(5, 4, 5, 4);
        x.insert(4, 0, 4, 0);
        x.insert(0, 3, 0, 3);
        x.insert(1, 1, 1, 1);
        x.move(4, 5, 2);
        x.move(7, 4, 2);
        return x;
    }

    private static int[] bents(BentPicture x) {
        int[] all = new int[9];
        for (int t = 0; t < all.length; t++) {
            all[t] = x.bent(t);
        }
        return all;
    }

    private static void bentTold() {
        doc.says("Promise 28", "How many TRIANGLES are BENT ON THE WAY t.");
        doc.all("folded on the way", bents(foldedOnTheWay()), 0, 0, 1, 1, 1, 1, 1, 0, 0);
        doc.all("flat on the way", bents(flatOnTheWay()), 0, 0, 1, 0, 0, 0, 0, 0, 0);
        doc.all("an area of 1 is above 0", bents(thinOnTheWay()), 0, 0, 0, 0, 0, 0, 0, 0, 0);
        doc.all("the thin one", Scene.knots(thinOnTheWay(), 4), 2, 5, 4);
        doc.due("it was moved", thinOnTheWay().count(6), 2);
        doc.all("the first triangle", bents(firstFoldedOnTheWay()), 0, 0, 0, 1, 1, 0, 0, 0, 0);
        doc.all("its knots", Scene.knots(firstFoldedOnTheWay(), 0), 0, 4, 7);
        doc.all("at first", bents(Scene.first()), 0, 0, 0, 0, 0, 0, 0, 0, 0);
        doc.all("one knot alone never folds", bents(Scene.middle()), 0, 0, 0, 0, 0, 0, 0, 0, 0);
        doc.stays("t 4", WouldBeBoundsTest::foldedOnTheWay, x -> x.bent(4), 1);
        doc.due("t 0", foldedOnTheWay().bent(0), 0);
        doc.due("t 8", foldedOnTheWay().bent(8), 0);
    }

    private static void bentOfNone() {
        doc.says("Promise 28", "NONE: another t.");
        for (int t : new int[] {-1, 9, -2, 10, 16, Scene.LEAST, Scene.MOST}) {
            doc.due("bent(" + t + ")", Scene.first().bent(t), NONE);
            doc.due("bent(" + t + ") of a bent net", foldedOnTheWay().bent(t), NONE);
        }
    }

    private static int[] stretches(BentPicture x) {
        int[] all = new int[6];
        for (int what = 0; what < all.length; what++) {
            all[what] = x.stretch(what);
        }
        return all;
    }

    private static void stretchTold() {
        doc.says("Promise 29", "The first TRIANGLE of the greatest STRETCH (what 0), of the least (1); the greatest one's "
            + "above (2), BELOW (3), the least one's (4, 5).");
        doc.all("all alike: the first", stretches(Scene.first()), 0, 0, 1, 1, 1, 1);
        doc.all("12 and 4 by 8", stretches(Scene.middle()), 1, 2, 3, 2, 1, 2);
        doc.all("4 by 2, 3 by 12", stretches(Scene.sides()), 6, 7, 2, 1, 1, 4);
        BentPicture x = Scene.sized(5, 5);
        x.insert(2, 2, 3, 3);
        doc.all("two are as great: the first of each", stretches(x), 0, 2, 3, 2, 1, 2);
        x.move(4, 1, 1);
        doc.all("two are as great: the last two", stretches(x), 2, 0, 3, 2, 1, 2);
        doc.all("7 by 1, 1 by 3", stretches(Scene.twist()), 1, 3, 7, 1, 1, 3);
        BentPicture close = Scene.sized(3, 6);
        close.insert(0, 4, 0, 3);
        close.insert(1, 3, 1, 3);
        doc.all("2 by 3 is less than 3 by 4", stretches(close), 3, 4, 2, 1, 2, 3);
        close.size(3, 6);
        close.insert(2, 4, 2, 1);
        close.insert(1, 2, 1, 1);
        doc.all("4 is more than 3", stretches(close), 4, 3, 4, 1, 1, 4);
        BentPicture far = Scene.sized(20, 20);
        far.insert(2, 1, 18, 17);
        doc.all("323 by 19, 19 by 323", stretches(far), 0, 3, 17, 1, 1, 17);
    }

    private static void stretchOfNone() {
        doc.says("Promise 29", "NONE for another what.");
        for (int what : new int[] {-1, 6, -2, 7, Scene.LEAST, Scene.MOST}) {
            doc.due("stretch(" + what + ")", Scene.first().stretch(what), NONE);
            doc.due("stretch(" + what + ") of a bent net", Scene.sides().stretch(what), NONE);
        }
    }
}
