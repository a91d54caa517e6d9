import java.io.IOException;
import java.util.Arrays;

/** Section 3 of the terms, sentence by sentence: the dots of the bent picture, and what would be. */
final class DotsTermsTest {
    private static final String SECTION = "Terms 3";
    private static Sentences doc;

    private DotsTermsTest() {
    }

    public static void main(String[] args) throws IOException {
        doc = new Sentences("DotsTermsTest");
        lies();
        shares();
        from();
        nearest();
        takes();
        blend();
        to();
        fractions();
        onTheWay();
        bent();
        stretch();
        room();
        trace();
        loops();
        doc.end(SECTION);
    }

    private static void lies() {
        doc.says(SECTION, "A DOT of the bent picture lies by PLACES in the least TRIANGLE that has it (within, on an EDGE, at a "
            + "KNOT).");
        BentPicture x = Scene.straight();
        doc.due("at a knot of 0, 1, 2 and 3", x.find(2, 2, false), 0);
        doc.due("at a corner of 1 and 3", x.find(0, 4, false), 1);
        doc.due("at a corner of 2 and 3", x.find(4, 4, false), 2);
        doc.due("on an edge of 0 and 1", x.find(1, 1, false), 0);
        doc.due("on an edge of 0 and 2", x.find(3, 1, false), 0);
        doc.due("on an edge of 1 and 3", x.find(1, 3, false), 1);
        doc.due("on an edge of 2 and 3", x.find(3, 3, false), 2);
        doc.due("within 0", x.find(2, 1, false), 0);
        doc.due("within 1", x.find(1, 2, false), 1);
        doc.due("within 2", x.find(3, 2, false), 2);
        doc.due("within 3", x.find(2, 3, false), 3);
        doc.due("on the rim of 3", x.find(2, 4, false), 3);
        doc.due("0 has the most", x.triangle(0, 5), 9);
        doc.due("1 has less", x.triangle(1, 5), 6);
        doc.due("2 has as many", x.triangle(2, 5), 6);
        doc.due("3 has the least", x.triangle(3, 5), 4);
        x.move(4, 3, 2);
        doc.due("by places: at its home another one", x.find(2, 2, false), 1);
        doc.due("by places: at its place", x.find(3, 2, false), 0);
    }

    private static void shares() {
        doc.says(SECTION, "SHARES of that TRIANGLE's KNOTS: AREA of the DOT and the other two KNOTS' PLACES, of all three; "
            + "together they are the AREA of the TRIANGLE (BELOW).");
        doc.all("7, 4 and 1 of 12", Scene.shares(Scene.middle(), 1, 1), 7, 4, 1, 12);
        doc.all("2, 2, 1 of 5", Scene.shares(first(), 2, 1), 2, 2, 1, 5);
        doc.all("at a knot: all of it", Scene.shares(Scene.middle(), 3, 2), 0, 0, 1, 1);
        doc.all("on an edge: nothing of the third", Scene.shares(Scene.straight(), 1, 3), 0, 1, 1, 2);
        doc.all("on the rim: nothing of the third", Scene.shares(Scene.middle(), 0, 3), 1, 0, 3, 4);
        BentPicture x = Scene.sides();
        for (int d = 0; d < 42; d++) {
            int[] s = Scene.shares(x, d % 7, d / 7);
            doc.due("together", s[0] + s[1] + s[2], s[3]);
            doc.due("none below 0", s[0] >= 0 && s[1] >= 0 && s[2] >= 0 && s[3] > 0, true);
        }
    }

    private static BentPicture first() {
        BentPicture x = Scene.first();
        x.insert(2, 1, 3, 1);
        return x;
    }

    private static void from() {
        doc.says(SECTION, "FROM: where the DOT comes from: SHARES times HOMES, added up, by BELOW.");
        doc.all("8 fifths, 1", Scene.from(first(), 2, 1), 8, 5, 5);
        doc.all("13 and 17 sevenths", Scene.from(Scene.twist(), 1, 2), 13, 17, 7);
        doc.all("10 and 12 sevenths", Scene.from(Scene.twist(), 2, 2), 10, 12, 7);
        doc.all("at a knot: its home", Scene.from(Scene.twist(), 3, 2), 1, 1, 1);
        doc.all("at a corner: the corner", Scene.from(Scene.twist(), 4, 5), 4, 5, 1);
        BentPicture x = Scene.sides();
        for (int i = 0; i < 7; i++) {
            doc.due("of the upper side: on it", x.from(i, 0, 1), 0);
            doc.due("of the lower side: on it", x.from(i, 5, 1), 5 * x.from(i, 5, 2));
        }
        for (int i = 0; i < 6; i++) {
            doc.due("of the left side: on it", x.from(0, i, 0), 0);
            doc.due("of the right side: on it", x.from(6, i, 0), 6 * x.from(6, i, 2));
        }
    }

    private static void nearest() {
        doc.says(SECTION, "NEAREST: the DOT with the whole numbers nearest to FROM's x and y, of two that are as near the lesser "
            + "one each.");
        BentPicture x = Scene.middle();
        doc.due("2 thirds: 1", x.nearest(1, 2), 11);
        doc.due("4 thirds: 1", x.nearest(2, 2), 11);
        doc.due("3 halves in x: 1", x.nearest(2, 1), 6);
        doc.due("5 halves in x: 2", x.nearest(3, 1), 7);
        BentPicture down = Scene.sized(5, 5);
        down.insert(2, 2, 2, 3);
        doc.due("3 halves in y: 1", down.nearest(1, 2), 6);
        doc.due("5 halves in y: 2", down.nearest(1, 3), 11);
        doc.due("2 thirds in y: 1", down.nearest(2, 1), 7);
        BentPicture half = Scene.sized(4, 4);
        half.insert(1, 1, 2, 2);
        doc.all("a half, a half", Scene.from(half, 1, 1), 1, 1, 2);
        doc.due("a half, a half: 0, 0", half.nearest(1, 1), 0);
        BentPicture sides = Scene.sides();
        doc.due("upper side, 2 thirds", sides.nearest(1, 0), 1);
        doc.due("right side, 3 halves", sides.nearest(6, 1), 13);
        doc.due("lower side, 8 thirds", sides.nearest(2, 5), 38);
        doc.due("left side, a half", sides.nearest(0, 1), 0);
        doc.due("left side, 3 halves", sides.nearest(0, 3), 7);
        doc.due("7 halves, 9 halves: 3, 4", halfWay().nearest(5, 6), 4 * 9 + 3);
    }

    /** 9 by 9: the dot 5, 6 is half way from the place 4, 5 of the home 1, 3 to the place 6, 7 of the home 6, 6. */
    private static BentPicture halfWay() {
        BentPicture x = Scene.sized(9, 9);
        doc.due("insert(6, 6, 6, 7)", x.insert(6, 6, 6, 7), 4);
        doc.due("insert(1, 3, 4, 5)", x.insert(1, 3, 4, 5), 5);
        doc.all("half way", Scene.from(x, 5, 6), 7, 9, 2);
        return x;
    }

    private static void takes() {
        doc.says(SECTION, "It takes that one's VALUE.");
        BentPicture x = Scene.twist();
        for (int d = 0; d < 30; d++) {
            int near = x.nearest(d % 5, d / 5);
            doc.due("dot " + d, x.value(d % 5, d / 5, true), Scene.woven(near % 5, near / 5, 0));
        }
        doc.due("of two as near, the lesser one's", Scene.middle().value(3, 1, true), Scene.woven(2, 1, 0));
    }

    private static void blend() {
        doc.says(SECTION, "BLEND: the VALUE at FROM, exactly: of both DOTS at either side in x, each by how near the other one "
            + "is not (the nearer the more, in all 1), likewise in y, of the four the products.");
        BentPicture x = Scene.middle();
        doc.all("10 and twice 3 by 3, in x alone", Scene.blend(x, 1, 2), 16, 3);
        BentPicture down = Scene.sized(5, 5);
        down.insert(2, 2, 2, 3);
        down.paint(2, 0, 10);
        down.paint(2, 1, 3);
        doc.all("10 and twice 3 by 3, in y alone", Scene.blend(down, 2, 1), 16, 3);
        BentPicture both = Scene.sized(5, 5);
        both.insert(2, 2, 3, 3);
        both.paint(0, 0, 1);
        both.paint(1, 0, 2);
        both.paint(0, 1, 4);
        both.paint(1, 1, 15);
        doc.all("1, twice 2, twice 4, four times 15 by 9", Scene.blend(both, 1, 1), 73, 9);
        doc.all("at a dot: its value", Scene.blend(both, 3, 3), 0, 1);
        both.paint(2, 2, 7);
        doc.all("at a dot: its value", Scene.blend(both, 3, 3), 7, 1);
        BentPicture even = Scene.twist();
        for (int d = 0; d < 30; d++) {
            even.paint(d % 5, d / 5, 15);
        }
        for (int d = 0; d < 30; d++) {
            doc.all("all alike: that value", Scene.blend(even, d % 5, d / 5), 15, 1);
        }
        BentPicture sides = Scene.sides();
        doc.all("on the right side: no dot beyond it", Scene.blend(sides, 6, 1), 7, 2);
        doc.all("on the lower side: no dot beyond it", Scene.blend(sides, 2, 5), 34, 3);
        doc.all("at the last corner", Scene.blend(sides, 6, 5), 14, 1);
    }

    private static void to() {
        doc.says(SECTION, "TO: where a DOT of THE PICTURE goes: likewise by HOMES in the least TRIANGLE that has it by HOMES, its "
            + "SHARES times PLACES.");
        BentPicture x = Scene.middle();
        doc.all("within", Scene.to(x, 1, 2), 3, 4, 2);
        doc.all("on an edge", Scene.to(x, 1, 1), 3, 2, 2);
        doc.all("on an edge of the last two", Scene.to(x, 3, 3), 7, 6, 2);
        doc.all("at the home of a knot: its place", Scene.to(x, 2, 2), 3, 2, 1);
        doc.all("at a corner", Scene.to(x, 4, 4), 4, 4, 1);
        doc.due("the least that has it by homes", x.find(3, 3, true), 2);
        doc.due("the least that has the home of the knot", x.find(2, 2, true), 0);
        doc.all("on the upper side", Scene.to(Scene.sides(), 4, 0), 9, 0, 2);
        doc.all("on the left side", Scene.to(Scene.sides(), 0, 1), 0, 2, 1);
        doc.all("a knot of the twist", Scene.to(Scene.twist(), 3, 4), 1, 3, 1);
    }

    private static void fractions() {
        doc.says(SECTION, "Fractions are told with one number below for x and y (or for all SHARES), the least that can be, "
            + "above 0.");
        doc.all("a whole y beside thirds of x", Scene.from(Scene.middle(), 1, 2), 2, 6, 3);
        doc.all("a whole x beside halves of y", Scene.from(Scene.twist(), 2, 1), 2, 1, 2);
        doc.all("whole numbers: 1 below", Scene.from(Scene.middle(), 4, 3), 4, 3, 1);
        doc.all("nothing: 1 below", Scene.from(Scene.middle(), 0, 0), 0, 0, 1);
        doc.all("nothing, by to: 1 below", Scene.to(Scene.middle(), 0, 0), 0, 0, 1);
        doc.all("shares of 0, 0 and all: 1 below", Scene.shares(Scene.middle(), 3, 2), 0, 0, 1, 1);
        doc.all("shares of 4, 4, 4 by 12", Scene.shares(Scene.middle(), 1, 2), 1, 1, 1, 3);
        doc.all("shares of 2, 8, 2 by 12", Scene.shares(Scene.middle(), 2, 2), 1, 4, 1, 6);
        doc.all("a blend of 18 by 3", Scene.blend(Scene.sides(), 1, 5), 6, 1);
        doc.all("a blend of nothing", Scene.blend(Scene.first(), 1, 1), 0, 1);
        int[] stretch = {Scene.sides().stretch(2), Scene.sides().stretch(3), Scene.sides().stretch(4),
            Scene.sides().stretch(5)};
        doc.all("stretches of 4 by 2 and 3 by 12", stretch, 2, 1, 1, 4);
        BentPicture x = Scene.sides();
        for (int d = 0; d < 42; d++) {
            leastBelow("from", Scene.from(x, d % 7, d / 7));
            leastBelow("to", Scene.to(x, d % 7, d / 7));
        }
        BentPicture y = Scene.sides();
        for (int d = 0; d < 42; d++) {
            leastBelow("shares", Scene.shares(y, d % 7, d / 7));
            leastBelow("blend", Scene.blend(y, d % 7, d / 7));
        }
    }

    /** The number below is the last one told; no number above 1 divides all. */
    private static void leastBelow(String what, int[] told) {
        int below = told[told.length - 1];
        doc.due(what + " below above 0", below > 0, true);
        for (int n = 2; n <= below; n++) {
            int divisor = n;
            doc.due(what + " " + Arrays.toString(told) + " divided by " + n,
                Arrays.stream(told).allMatch(number -> number % divisor == 0), false);
        }
    }

    private static int[] bents(BentPicture x) {
        int[] all = new int[9];
        for (int t = 0; t < all.length; t++) {
            all[t] = x.bent(t);
        }
        return all;
    }

    private static void onTheWay() {
        doc.says(SECTION, "ON THE WAY t, 0 to 8: KNOTS at 8 less t times HOME and t times PLACE together (by 8).");
        // Its triangle 2, 5, 4 has an area of 1 by homes and by places, and one below 0 from t 2 to t 6.
        BentPicture x = Scene.sized(9, 8);
        x.insert(7, 3, 7, 3);
        x.insert(7, 4, 7, 4);
        doc.due("move(5, 7, 6)", x.move(5, 7, 6), 0);
        doc.due("move(4, 4, 2)", x.move(4, 4, 2), 0);
        doc.all("t 0 to 8", bents(x), 0, 0, 1, 1, 1, 1, 1, 0, 0);
        doc.due("t below 0", x.bent(-1), -1);
        doc.due("t above 8", x.bent(9), -1);
        doc.due("t 0 is home", homeAgain(x).bent(8), 0);
    }

    private static BentPicture homeAgain(BentPicture x) {
        x.straight();
        return x;
    }

    private static void bent() {
        doc.says(SECTION, "BENT is a TRIANGLE so that the AREA of these is not above 0.");
        BentPicture x = Scene.sized(9, 10);
        x.insert(1, 7, 1, 7);
        x.insert(4, 8, 4, 8);
        x.move(4, 2, 3);
        x.move(5, 2, 4);
        doc.all("20, 0 and 4 by 64 at t 1 to 3", bents(x), 0, 0, 1, 0, 0, 0, 0, 0, 0);
        doc.due("no fold there and here", x.triangle(5, 3) > 0 && x.triangle(5, 4) > 0, true);
    }

    private static void stretch() {
        doc.says(SECTION, "STRETCH of a TRIANGLE: AREA of PLACES by AREA of HOMES.");
        BentPicture x = Scene.middle();
        doc.due("12 by 8: above", x.stretch(2), 3);
        doc.due("12 by 8: below", x.stretch(3), 2);
        doc.due("4 by 8: above", x.stretch(4), 1);
        doc.due("4 by 8: below", x.stretch(5), 2);
        doc.due("7 by 1", Scene.twist().stretch(2), 7);
        doc.due("a small one of a great stretch, not the greatest one", Scene.sides().stretch(0), 6);
    }

    private static void room() {
        doc.says(SECTION, "ROOM of a KNOT: all PLACES to which it could MOVE, and its own.");
        for (int k = 0; k < 9; k++) {
            int found = 0;
            for (int d = 0; d < 42; d++) {
                int reason = Scene.sides().move(k, d % 7, d / 7);
                if (reason == 0 || reason == 2) {
                    doc.due("knot " + k + " at " + found, Scene.sides().room(k, found), d);
                    found++;
                }
            }
            doc.due("knot " + k + ": how many", Scene.sides().room(k, -1), found);
            doc.due("knot " + k + ": no more", Scene.sides().room(k, found), -1);
        }
    }

    private static void trace() {
        doc.says(SECTION, "TRACE: from a DOT to its NEAREST, on and on.");
        for (int d = 0; d < 30; d++) {
            BentPicture x = Scene.twist();
            int at = d;
            for (int n = 0; n <= 100; n++) {
                doc.due("dot " + d + " in " + n, x.trace(d % 5, d / 5, n), at);
                at = x.nearest(at % 5, at / 5);
            }
        }
    }

    private static void loops() {
        doc.says(SECTION, "A LOOP DOT comes back to itself by TRACE.");
        doc.due("20 that stay, two pairs", Scene.twist().loops(), 24);
        doc.due("one of a pair", Scene.twist().trace(3, 3, 2), 18);
        doc.due("all", Scene.straight().loops(), 25);
        // The dots 8, 31 and 23 go round.
        BentPicture x = Scene.sized(7, 9);
        x.insert(2, 3, 5, 7);
        x.insert(3, 4, 1, 1);
        doc.due("one go", x.trace(1, 1, 1), 31);
        doc.due("two goes", x.trace(1, 1, 2), 23);
        doc.due("three goes: back", x.trace(1, 1, 3), 8);
        int loops = 0;
        int[] near = Scene.nearest(x);
        for (int d = 0; d < near.length; d++) {
            int at = near[d];
            for (int n = 0; n < near.length && at != d; n++) {
                at = near[at];
            }
            loops += at == d ? 1 : 0;
        }
        doc.due("all that come back", x.loops(), loops);
        doc.due("31 of them", loops, 31);
    }
}
