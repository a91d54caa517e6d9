import java.io.IOException;
import java.util.Arrays;

/** The bounds that the promises 16 to 25 name, sentence by sentence: the dots. */
final class DotsBoundsTest {
    private static final int NONE = BentPicture.NONE;
    /** The nearest dots of the twist, a row a line. */
    private static final int[] TWIST = {
        0, 1, 2, 3, 4,
        5, 6, 1, 2, 9,
        10, 12, 11, 6, 14,
        15, 23, 18, 17, 19,
        20, 22, 23, 23, 24,
        25, 26, 27, 28, 29};
    private static Sentences doc;

    private DotsBoundsTest() {
    }

    public static void main(String[] args) throws IOException {
        doc = new Sentences("DotsBoundsTest");
        findTold();
        findOfNone();
        shareTold();
        shareOfNone();
        fromTold();
        fromOfNone();
        to();
        nearestTold();
        nearestOfNone();
        blendTold();
        blendOfNone();
        usesTold();
        usesOfNone();
        lost();
        traceTold();
        traceOfNone();
        loops();
        doc.end("Promise 16", "Promise 17", "Promise 18", "Promise 19", "Promise 20", "Promise 21", "Promise 22",
            "Promise 23", "Promise 24", "Promise 25");
    }

    /** NONE beyond each side and for each other what, in scenes of several sizes. */
    private static void noSuchDotOrWhat(String call, int whats, WhatCall ask) {
        for (int what = 0; what < whats; what++) {
            int w = what;
            doc.noSuchDot(call + " what " + w, Scene::first, (x, dotX, dotY) -> ask.ask(x, dotX, dotY, w));
            doc.noSuchDot(call + " what " + w, Scene::sides, (x, dotX, dotY) -> ask.ask(x, dotX, dotY, w));
            doc.noSuchDot(call + " what " + w, Scene::thirty, (x, dotX, dotY) -> ask.ask(x, dotX, dotY, w));
        }
        for (int what : new int[] {-1, -2, whats, whats + 1, Scene.LEAST, Scene.MOST}) {
            doc.due(call + " within, what " + what, ask.ask(Scene.sides(), 2, 3, what), NONE);
            doc.due(call + " at a corner, what " + what, ask.ask(Scene.sides(), 0, 0, what), NONE);
            doc.due(call + " beyond, what " + what, ask.ask(Scene.sides(), 7, 0, what), NONE);
        }
    }

    private interface WhatCall {
        int ask(BentPicture picture, int x, int y, int what);
    }

    private static void findTold() {
        doc.says("Promise 16", "The TRIANGLE in which a DOT lies by PLACES, or (home) by HOMES.");
        BentPicture x = Scene.middle();
        doc.due("at the place of a knot of all four", x.find(3, 2, false), 0);
        doc.due("at its home, by places", x.find(2, 2, false), 1);
        doc.due("at its home, by homes", x.find(2, 2, true), 0);
        doc.due("at its place, by homes", x.find(3, 2, true), 2);
        doc.due("at a corner of 0 and 1", x.find(0, 0, false), 0);
        doc.due("at a corner of 0 and 2", x.find(4, 0, false), 0);
        doc.due("at a corner of 2 and 3", x.find(4, 4, false), 2);
        doc.due("at a corner of 1 and 3", x.find(0, 4, true), 1);
        doc.due("on an edge of 0 and 1, by homes", x.find(1, 1, true), 0);
        doc.due("on an edge of 0 and 2, by homes", x.find(3, 1, true), 0);
        doc.due("on an edge of 2 and 3, by homes", x.find(3, 3, true), 2);
        doc.due("on an edge of 1 and 3, by homes", x.find(1, 3, true), 1);
        doc.due("beside that edge, by places", x.find(3, 3, false), 3);
        doc.due("on a side", x.find(4, 2, false), 2);
        doc.due("on a side below", x.find(2, 4, false), 3);
    }

    private static void findOfNone() {
        doc.says("Promise 16", "NONE: no such DOT.");
        doc.noSuchDot("find by places", Scene::first, (x, dotX, dotY) -> x.find(dotX, dotY, false));
        doc.noSuchDot("find by homes", Scene::first, (x, dotX, dotY) -> x.find(dotX, dotY, true));
        doc.noSuchDot("find by places", Scene::sides, (x, dotX, dotY) -> x.find(dotX, dotY, false));
        doc.noSuchDot("find by homes", Scene::thirty, (x, dotX, dotY) -> x.find(dotX, dotY, true));
    }

    private static void shareTold() {
        doc.says("Promise 17", "SHARES of a DOT by PLACES, what 0 to 2: of its TRIANGLE's KNOTS in order, 3: BELOW.");
        BentPicture x = Scene.middle();
        doc.all("4, 4, 4 of 12", Scene.shares(x, 1, 2), 1, 1, 1, 3);
        doc.all("7, 4, 1 of 12", Scene.shares(x, 1, 1), 7, 4, 1, 12);
        doc.all("at a knot", Scene.shares(x, 3, 2), 0, 0, 1, 1);
        doc.all("at the first corner", Scene.shares(x, 0, 0), 1, 0, 0, 1);
        doc.all("at the second corner", Scene.shares(x, 4, 0), 0, 1, 0, 1);
        doc.all("on a side", Scene.shares(x, 3, 0), 1, 3, 0, 4);
        doc.all("on an edge", Scene.shares(Scene.straight(), 1, 1), 1, 0, 1, 2);
        doc.all("on the edge between the other two triangles", Scene.shares(Scene.straight(), 3, 3), 0, 1, 1, 2);
        doc.all("sevenths", Scene.shares(Scene.twist(), 1, 2), 3, 1, 3, 7);
        doc.all("of 361, on the edge", Scene.shares(Scene.sized(20, 20), 18, 18), 1, 0, 18, 19);
        doc.all("of 361, within", Scene.shares(Scene.sized(20, 20), 18, 1), 1, 17, 1, 19);
    }

    private static void shareOfNone() {
        doc.says("Promise 17", "NONE: no such DOT, another what.");
        noSuchDotOrWhat("share", 4, BentPicture::share);
    }

    private static void fromTold() {
        doc.says("Promise 18", "FROM of a DOT, what 0: x, 1: y, 2: BELOW.");
        BentPicture x = Scene.middle();
        doc.all("2 thirds, 2", Scene.from(x, 1, 2), 2, 6, 3);
        doc.all("3 halves, 1", Scene.from(x, 2, 1), 3, 2, 2);
        doc.all("at a knot", Scene.from(x, 3, 2), 2, 2, 1);
        doc.all("at the first corner", Scene.from(x, 0, 0), 0, 0, 1);
        doc.all("at the last corner", Scene.from(x, 4, 4), 4, 4, 1);
        BentPicture sides = Scene.sides();
        doc.all("on the upper side", Scene.from(sides, 1, 0), 2, 0, 3);
        doc.all("on the upper side behind the knot", Scene.from(sides, 4, 0), 10, 0, 3);
        doc.all("on the right side", Scene.from(sides, 6, 1), 12, 3, 2);
        doc.all("on the lower side", Scene.from(sides, 2, 5), 8, 15, 3);
        doc.all("on the left side", Scene.from(sides, 0, 3), 0, 3, 2);
        doc.all("13 and 17 sevenths", Scene.from(Scene.twist(), 1, 2), 13, 17, 7);
    }

    private static void fromOfNone() {
        doc.says("Promise 18", "NONE: no such DOT, another what.");
        noSuchDotOrWhat("from", 3, BentPicture::from);
    }

    private static void to() {
        doc.says("Promise 19", "TO of a DOT, likewise.");
        BentPicture x = Scene.middle();
        doc.all("3 halves, 2", Scene.to(x, 1, 2), 3, 4, 2);
        doc.all("at the home of a knot", Scene.to(x, 2, 2), 3, 2, 1);
        doc.all("on an edge", Scene.to(x, 1, 1), 3, 2, 2);
        doc.all("at the first corner", Scene.to(x, 0, 0), 0, 0, 1);
        doc.all("at the last corner", Scene.to(x, 4, 4), 4, 4, 1);
        BentPicture sides = Scene.sides();
        doc.all("on the upper side", Scene.to(sides, 1, 0), 3, 0, 2);
        doc.all("on the right side", Scene.to(sides, 6, 1), 18, 2, 3);
        doc.all("on the lower side", Scene.to(sides, 5, 5), 9, 10, 2);
        doc.all("on the left side", Scene.to(sides, 0, 4), 0, 14, 3);
        noSuchDotOrWhat("to", 3, BentPicture::to);
    }

    private static void nearestTold() {
        doc.says("Promise 20", "NEAREST, as its number.");
        doc.all("twist", Scene.nearest(Scene.twist()), TWIST);
        doc.all("sides", Scene.nearest(Scene.sides()),
            0, 1, 1, 2, 3, 5, 6,
            0, 8, 9, 9, 10, 12, 13,
            7, 15, 16, 17, 17, 19, 27,
            7, 15, 24, 24, 25, 26, 34,
            14, 22, 31, 32, 32, 33, 34,
            35, 36, 38, 39, 40, 40, 41);
        BentPicture x = Scene.sized(4, 4);
        x.insert(1, 1, 2, 2);
        doc.due("as near in x and in y: the lesser ones", x.nearest(1, 1), 0);
        x.size(4, 4);
        x.insert(2, 2, 1, 1);
        doc.due("as near in x and in y at the other end: the lesser ones", x.nearest(2, 2), 10);
    }

    private static void nearestOfNone() {
        doc.says("Promise 20", "NONE: no such DOT.");
        doc.noSuchDot("nearest", Scene::first, BentPicture::nearest);
        doc.noSuchDot("nearest", Scene::sides, BentPicture::nearest);
        doc.noSuchDot("nearest", Scene::thirty, BentPicture::nearest);
    }

    private static void blendTold() {
        doc.says("Promise 21", "BLEND, what 0: above, 1: BELOW.");
        BentPicture x = Scene.sides();
        doc.all("upper side: 5 and twice 12 by 3", Scene.blend(x, 1, 0), 29, 3);
        doc.all("upper side: twice 10 and 1 by 3", Scene.blend(x, 4, 0), 7, 1);
        doc.all("right side: 2 and 5 by 2", Scene.blend(x, 6, 1), 7, 2);
        doc.all("right side: 8 and twice 11 by 3", Scene.blend(x, 6, 3), 10, 1);
        doc.all("lower side: twice 2 and 14 by 3", Scene.blend(x, 1, 5), 6, 1);
        doc.all("lower side: 14 and twice 10 by 3", Scene.blend(x, 2, 5), 34, 3);
        doc.all("left side: 5 and 2 by 2", Scene.blend(x, 0, 1), 7, 2);
        doc.all("left side: 2 and 15 by 2", Scene.blend(x, 0, 3), 17, 2);
        doc.all("corner 0", Scene.blend(x, 0, 0), 5, 1);
        doc.all("corner 1", Scene.blend(x, 6, 0), 15, 1);
        doc.all("corner 2", Scene.blend(x, 6, 5), 14, 1);
        doc.all("corner 3", Scene.blend(x, 0, 5), 6, 1);
        doc.all("at a knot on a side", Scene.blend(x, 6, 2), 8, 1);
        doc.all("nothing: 0 by 1", Scene.blend(Scene.first(), 2, 2), 0, 1);
        BentPicture half = Scene.sized(4, 4);
        half.weave(0);
        half.insert(1, 1, 2, 2);
        doc.all("as near to four: 0, 7, 13, 5 by 4", Scene.blend(half, 1, 1), 25, 4);
        half.paint(1, 1, 4);
        doc.all("as near to four: 24 by 4", Scene.blend(half, 1, 1), 6, 1);
        BentPicture twist = Scene.twist();
        // From 13, 17 sevenths: 1 and 6 sevenths in x, 4 and 3 in y, of 1, 2 / 2, 2 and 1, 3 / 2, 3.
        int above = 4 * (Scene.woven(1, 2, 0) + 6 * Scene.woven(2, 2, 0))
            + 3 * (Scene.woven(1, 3, 0) + 6 * Scene.woven(2, 3, 0));
        doc.all("of four, by 49", Scene.blend(twist, 1, 2), above, 49);
    }

    private static void blendOfNone() {
        doc.says("Promise 21", "NONE: no such DOT, another what.");
        noSuchDotOrWhat("blend", 2, BentPicture::blend);
    }

    private static void usesTold() {
        doc.says("Promise 22", "How many DOTS have a DOT as NEAREST.");
        int[] want = new int[30];
        for (int d : TWIST) {
            want[d]++;
        }
        int[] got = new int[30];
        BentPicture x = Scene.twist();
        for (int d = 0; d < got.length; d++) {
            got[d] = x.uses(d % 5, d / 5);
        }
        doc.all("twist", got, want);
        doc.due("three", x.uses(3, 4), 3);
        doc.due("none", x.uses(2, 1), 0);
        doc.due("itself alone", x.uses(0, 0), 1);
        doc.due("another one alone", x.uses(1, 2), 1);
        x.straight();
        doc.due("straight", x.uses(2, 1), 1);
    }

    private static void usesOfNone() {
        doc.says("Promise 22", "NONE: no such one.");
        doc.noSuchDot("uses", Scene::first, BentPicture::uses);
        doc.noSuchDot("uses", Scene::sides, BentPicture::uses);
        doc.noSuchDot("uses", Scene::thirty, BentPicture::uses);
    }

    private static void lost() {
        doc.says("Promise 23", "How many DOTS are NEAREST of none.");
        doc.stays("none at first", Scene::first, BentPicture::lost, 0);
        doc.stays("none of 400", Scene::thirty, BentPicture::lost, 0);
        doc.stays("none of 4", () -> Scene.sized(2, 2), BentPicture::lost, 0);
        doc.stays("7, 8, 13, 16 and 21", Scene::twist, BentPicture::lost, 5);
        doc.stays("8, 13 and 18", Scene::middle, BentPicture::lost, 3);
        BentPicture x = Scene.twist();
        x.lost();
        x.straight();
        doc.due("none any more", x.lost(), 0);
    }

    private static void traceTold() {
        doc.says("Promise 24", "The DOT to which TRACE comes from one in n goes (0 to 100), as its number.");
        BentPicture x = Scene.twist();
        doc.due("no go", x.trace(1, 2, 0), 11);
        doc.due("one go", x.trace(1, 2, 1), 12);
        doc.due("two goes: back", x.trace(1, 2, 2), 11);
        doc.due("three goes", x.trace(1, 2, 3), 12);
        doc.due("99 goes", x.trace(1, 2, 99), 12);
        doc.due("100 goes", x.trace(1, 2, 100), 11);
        doc.due("two goes on and there", x.trace(1, 4, 2), 23);
        doc.due("it stays there", x.trace(1, 4, 100), 23);
        doc.due("the last dot", x.trace(4, 5, 100), 29);
        doc.due("no go from each", Arrays.stream(new int[] {0, 6, 12, 18, 24})
            .allMatch(d -> x.trace(d % 5, d / 5, 0) == d), true);
    }

    private static void traceOfNone() {
        doc.says("Promise 24", "NONE: no such DOT, n.");
        for (int n : new int[] {0, 1, 100}) {
            doc.noSuchDot("trace in " + n, Scene::first, (x, dotX, dotY) -> x.trace(dotX, dotY, n));
            doc.noSuchDot("trace in " + n, Scene::sides, (x, dotX, dotY) -> x.trace(dotX, dotY, n));
        }
        for (int n : new int[] {-1, -2, 101, 102, 1000, Scene.LEAST, Scene.MOST}) {
            doc.due("trace(1, 2, " + n + ")", Scene.twist().trace(1, 2, n), NONE);
            doc.due("trace(0, 0, " + n + ")", Scene.first().trace(0, 0, n), NONE);
            doc.due("trace(5, 0, " + n + ")", Scene.first().trace(5, 0, n), NONE);
        }
    }

    private static void loops() {
        doc.says("Promise 25", "How many LOOP DOTS there are.");
        doc.stays("each at first", Scene::first, BentPicture::loops, 20);
        doc.stays("each of 4", () -> Scene.sized(2, 2), BentPicture::loops, 4);
        doc.stays("each of 400", Scene::thirty, BentPicture::loops, 400);
        doc.stays("20 that stay, two pairs", Scene::twist, BentPicture::loops, 24);
        doc.stays("19 that stay", Scene::middle, BentPicture::loops, 19);
        BentPicture x = Scene.twist();
        int loops = 0;
        for (int d = 0; d < 30; d++) {
            boolean back = false;
            for (int n = 1; n <= 4; n++) {
                back |= x.trace(d % 5, d / 5, n) == d;
            }
            loops += back ? 1 : 0;
        }
        doc.due("those that come back by trace", loops, 24);
    }
}
