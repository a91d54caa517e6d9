import java.io.IOException;
import java.util.function.Supplier;
import java.util.function.ToIntFunction;

/** Section 2 of the terms, sentence by sentence: the acts, and what is refused. */
final class ActsTermsTest {
    private static final String SECTION = "Terms 2";
    private static Sentences doc;

    private ActsTermsTest() {
    }

    public static void main(String[] args) throws IOException {
        doc = new Sentences("ActsTermsTest");
        insert();
        move();
        turn();
        out();
        straight();
        carry();
        refused();
        doc.end(SECTION);
    }

    /** What a net is behind one act that answers so. */
    private static void becomes(String what, Supplier<BentPicture> scene, ToIntFunction<BentPicture> act, int answer,
            int... net) {
        BentPicture x = scene.get();
        doc.due(what, act.applyAsInt(x), answer);
        doc.all(what + ": triangles", Scene.net(x), net);
        doc.isFresh(what, scene, act);
    }

    private static void insert() {
        doc.says(SECTION, "INSERT a KNOT, with HOME and PLACE (the next number): where its HOME is within a TRIANGLE, that "
            + "becomes three; where it is within an EDGE, each TRIANGLE that has it becomes two.");
        becomes("within the first triangle", Scene::first, x -> x.insert(2, 1, 3, 1), 4,
            0, 1, 4, 0, 2, 3, 0, 4, 2, 1, 2, 4);
        becomes("within the second triangle", Scene::first, x -> x.insert(1, 2, 1, 2), 4,
            0, 1, 2, 0, 2, 4, 0, 4, 3, 2, 3, 4);
        becomes("within an edge of two", () -> Scene.sized(5, 5), x -> x.insert(2, 2, 2, 2), 4,
            0, 1, 4, 0, 4, 3, 1, 2, 4, 2, 3, 4);
        becomes("within an edge of two, its place beside it", () -> Scene.sized(5, 5), x -> x.insert(3, 3, 1, 2), 4,
            0, 1, 4, 0, 4, 3, 1, 2, 4, 2, 3, 4);
        becomes("within an edge of two that is no diagonal", () -> Scene.sized(7, 4), x -> x.insert(4, 2, 1, 2), 4,
            0, 1, 4, 0, 4, 3, 1, 2, 4, 2, 3, 4);
        becomes("beside that edge", () -> Scene.sized(7, 4), x -> x.insert(3, 1, 3, 1), 4,
            0, 1, 4, 0, 2, 3, 0, 4, 2, 1, 2, 4);
        insertOnSides();
        BentPicture x = Scene.sides();
        doc.due("the next number", x.insert(1, 0, 1, 0), 9);
        doc.all("its home and place", Scene.homeAndPlace(x, 9), 1, 0, 1, 0);
        doc.all("the one before it stays", Scene.homeAndPlace(x, 8), 4, 3, 4, 3);
        doc.due("one more triangle on a side", x.count(3), 9);
        doc.due("two more edges on a side", x.count(4), 18);
        doc.due("within an edge", x.insert(5, 4, 5, 4), 10);
        doc.due("two more triangles", x.count(3), 11);
        doc.due("three more edges", x.count(4), 21);
        doc.due("its triangles", x.knot(10, 4), 4);
        doc.due("the edge is none any more", x.edge(2, 8, 0), -1);
    }

    private static void insertOnSides() {
        for (int i = 1; i <= 3; i++) {
            int at = i;
            becomes("within an edge on the upper side", Scene::first, x -> x.insert(at, 0, 2, 0), 4,
                0, 2, 3, 0, 4, 2, 1, 2, 4);
            becomes("within an edge on the lower side", Scene::first, x -> x.insert(at, 3, 1, 3), 4,
                0, 1, 2, 0, 2, 4, 0, 4, 3);
        }
        for (int i = 1; i <= 2; i++) {
            int at = i;
            becomes("within an edge on the right side", Scene::first, x -> x.insert(4, at, 4, 1), 4,
                0, 1, 4, 0, 2, 3, 0, 4, 2);
            becomes("within an edge on the left side", Scene::first, x -> x.insert(0, at, 0, 2), 4,
                0, 1, 2, 0, 2, 4, 2, 3, 4);
        }
    }

    private static void move() {
        doc.says(SECTION, "MOVE: a KNOT has another PLACE.");
        BentPicture x = Scene.sides();
        int[] net = Scene.net(x);
        doc.due("within", x.move(8, 4, 2), 0);
        doc.all("its home stays", Scene.homeAndPlace(x, 8), 4, 3, 4, 2);
        doc.due("on a side", x.move(4, 5, 0), 0);
        doc.all("its home stays", Scene.homeAndPlace(x, 4), 2, 0, 5, 0);
        doc.all("no triangle is another one", Scene.net(x), net);
        doc.due("the values stay", x.value(4, 3, false), Scene.woven(4, 3, 5));
        doc.due("where it comes from is another one", x.from(4, 2, 0) * 10 + x.from(4, 2, 1), 43);
        doc.due("back", x.move(8, 4, 3), 0);
        doc.all("back", Scene.homeAndPlace(x, 8), 4, 3, 4, 3);
        doc.isFresh("within", Scene::sides, p -> p.move(8, 4, 2));
        doc.isFresh("on a side", Scene::sides, p -> p.move(4, 5, 0));
    }

    private static void turn() {
        doc.says(SECTION, "TURN an EDGE of two TRIANGLES: these become the two that have the other two KNOTS of theirs as an "
            + "EDGE.");
        becomes("the first edge", Scene::first, x -> x.turn(0, 2), 0, 0, 1, 3, 1, 2, 3);
        becomes("the first edge, told the other way", Scene::first, x -> x.turn(2, 0), 0, 0, 1, 3, 1, 2, 3);
        becomes("there and back", Scene::first, x -> x.turn(0, 2) + x.turn(3, 1), 0, 0, 1, 2, 0, 2, 3);
        becomes("among others", Scene::sides, x -> x.turn(6, 0), 0,
            0, 2, 7, 0, 4, 8, 0, 8, 2, 1, 5, 4, 2, 4, 5, 2, 6, 7, 2, 8, 4, 3, 7, 6);
        BentPicture x = Scene.sides();
        x.turn(0, 6);
        doc.due("the edge is none any more", x.edge(0, 6, 0), -1);
        doc.due("the other two knots have one", x.edge(2, 7, 0), 2);
        doc.due("as many edges", x.count(4), 16);
        doc.due("as many triangles", x.count(3), 8);
        doc.all("the places stay", Scene.homeAndPlace(x, 6), 4, 5, 3, 5);
    }

    private static void out() {
        doc.says(SECTION, "OUT: a KNOT that is of three TRIANGLES within, of two on a SIDE, goes: these become one; those "
            + "behind it come up by one.");
        becomes("within, the last one", Scene::sides, x -> x.out(8), 0,
            0, 2, 6, 0, 4, 2, 0, 6, 7, 1, 5, 4, 2, 4, 5, 3, 7, 6);
        becomes("right", Scene::sides, x -> x.out(5), 0,
            0, 2, 5, 0, 4, 7, 0, 5, 6, 0, 7, 2, 1, 2, 4, 2, 7, 4, 3, 6, 5);
        becomes("left", Scene::sides, x -> x.out(7), 0,
            0, 2, 6, 0, 4, 7, 0, 6, 3, 0, 7, 2, 1, 5, 4, 2, 4, 5, 2, 7, 4);
        becomes("below, behind another one", Scene::sides, x -> x.out(7) + x.out(6), 0,
            0, 2, 3, 0, 4, 6, 0, 6, 2, 1, 5, 4, 2, 4, 5, 2, 6, 4);
        becomes("above, when the others are gone", Scene::sides, x -> x.out(8) + x.out(5) + x.out(4), 0,
            0, 1, 2, 0, 2, 4, 0, 4, 5, 3, 5, 4);
        BentPicture x = Scene.sides();
        x.out(5);
        doc.due("one less", x.count(2), 8);
        doc.all("5 comes up", Scene.homeAndPlace(x, 5), 4, 5, 3, 5);
        doc.all("6 comes up", Scene.homeAndPlace(x, 6), 0, 2, 0, 4);
        doc.all("7 comes up", Scene.homeAndPlace(x, 7), 4, 3, 4, 3);
        doc.all("4 stays", Scene.homeAndPlace(x, 4), 2, 0, 3, 0);
        doc.due("8 is none", x.knot(8, 0), -1);
        BentPicture rim = Scene.rim();
        doc.due("the first of 30 behind the corners", rim.out(4), 0);
        for (int k = 4; k < 29; k++) {
            int homeX = k < 21 ? k - 2 : 0;
            int homeY = k < 21 ? 0 : k - 20;
            doc.all("all behind it come up", Scene.homeAndPlace(rim, k), homeX, homeY, homeX, homeY);
        }
        doc.due("29 is none", rim.knot(29, 0), -1);
        outWithOthersBent();
        outWithNeighboursBehind();
        inAndOut();
    }

    /** A knot that comes and goes at once leaves nothing behind: within a triangle, on a side. */
    private static void inAndOut() {
        inAndOutOf(Scene::first, 5, 4);
        inAndOutOf(Scene::middle, 5, 5);
        inAndOutOf(Scene::sides, 7, 6);
        inAndOutOf(Scene::twist, 5, 6);
        inAndOutOf(ActsTermsTest::inner, 9, 9);
        inAndOutOf(ActsTermsTest::movedInner, 9, 9);
    }

    private static void inAndOutOf(Supplier<BentPicture> scene, int w, int h) {
        int next = scene.get().count(2);
        for (int d = 0; d < w * h; d++) {
            int homeX = d % w;
            int homeY = d / w;
            int[] to = Scene.to(scene.get(), homeX, homeY);
            BentPicture x = scene.get();
            boolean comes = to[2] == 1 && x.insert(homeX, homeY, to[0], to[1]) == next;
            if (comes && x.knot(next, 4) == (x.knot(next, 5) == 1 ? 2 : 3)) {
                doc.stays("in and out at " + homeX + ", " + homeY, scene,
                    p -> p.insert(homeX, homeY, to[0], to[1]) * 10 + p.out(next), next * 10);
            }
        }
    }

    /** 9 by 9, the knots 4, 5, 6 within have a triangle of their own; 4 is of that, of 0, 5, 4 and of 0, 4, 6 alone. */
    private static BentPicture inner() {
        BentPicture x = Scene.sized(9, 9);
        x.insert(3, 4, 3, 4);
        x.insert(7, 3, 7, 3);
        x.insert(2, 7, 2, 7);
        x.turn(0, 2);
        x.turn(2, 4);
        x.turn(3, 4);
        return x;
    }

    private static BentPicture movedInner() {
        BentPicture x = inner();
        x.move(5, 6, 3);
        return x;
    }

    private static void outWithNeighboursBehind() {
        doc.all("a triangle of 4, 5, 6", Scene.net(inner()),
            0, 1, 5, 0, 4, 6, 0, 5, 4, 0, 6, 3, 1, 2, 5, 2, 3, 6, 2, 6, 5, 4, 5, 6);
        becomes("its neighbours come up", ActsTermsTest::inner, x -> x.out(4), 0,
            0, 1, 4, 0, 4, 5, 0, 5, 3, 1, 2, 4, 2, 3, 5, 2, 5, 4);
    }

    /** A knot that has been moved goes too: the triangle that is left has an area, by homes and by places. */
    private static void outWithOthersBent() {
        BentPicture x = Scene.sides();
        doc.due("moved", x.move(8, 5, 4), 0);
        doc.due("goes", x.out(8), 0);
        doc.due("area of homes", x.triangle(1, 3), 10);
        doc.due("area of places", x.triangle(1, 4), 15);
        doc.due("nothing of it is left", x.count(6), 4);
    }

    private static void straight() {
        doc.says(SECTION, "STRAIGHT: each PLACE is the HOME.");
        BentPicture x = Scene.sides();
        int[] net = Scene.net(x);
        x.move(8, 4, 2);
        x.nearest(0, 0);
        doc.due("all five", x.straight(), 5);
        for (int k = 0; k < 9; k++) {
            doc.due("x", x.knot(k, 2), x.knot(k, 0));
            doc.due("y", x.knot(k, 3), x.knot(k, 1));
        }
        doc.all("homes stay", Scene.homeAndPlace(x, 4), 2, 0, 2, 0);
        doc.all("triangles stay", Scene.net(x), net);
        int[] each = new int[42];
        for (int d = 0; d < each.length; d++) {
            each[d] = d;
        }
        doc.all("each dot comes from itself", Scene.nearest(x), each);
        doc.due("the values stay", x.value(4, 3, false), Scene.woven(4, 3, 5));
        doc.isFresh("straight", Scene::sides, BentPicture::straight);
    }

    private static void carry() {
        doc.says(SECTION, "CARRY: each DOT's VALUE becomes that which it takes (section 3), all at once.");
        BentPicture right = Scene.middle();
        right.carry();
        doc.due("13 from 12", right.value(3, 2, false), Scene.woven(2, 2, 0));
        doc.due("12 from 11", right.value(2, 2, false), Scene.woven(1, 2, 0));
        doc.due("11 stays", right.value(1, 2, false), Scene.woven(1, 2, 0));
        BentPicture left = Scene.sized(5, 5);
        left.weave(0);
        left.insert(2, 2, 1, 2);
        left.carry();
        doc.due("11 from 12", left.value(1, 2, false), Scene.woven(2, 2, 0));
        doc.due("12 from 13", left.value(2, 2, false), Scene.woven(3, 2, 0));
        doc.due("13 stays", left.value(3, 2, false), Scene.woven(3, 2, 0));
        BentPicture twist = Scene.twist();
        twist.carry();
        doc.due("11 and 12 change", twist.value(1, 2, false), Scene.woven(2, 2, 0));
        doc.due("12 and 11 change", twist.value(2, 2, false), Scene.woven(1, 2, 0));
        twist.carry();
        doc.due("and back", twist.value(1, 2, false), Scene.woven(1, 2, 0));
        doc.all("the net stays", Scene.homeAndPlace(twist, 4), 1, 1, 3, 2);
        doc.isFresh("twist", Scene::twist, BentPicture::carry);
        doc.isFresh("400 dots", Scene::thirty, BentPicture::carry);
    }

    private static void refused() {
        doc.says(SECTION, "REFUSED, the first of these: 1 no such KNOT, no whole numbers of a DOT; 2 INSERT: a KNOT has that "
            + "HOME; MOVE: it has that PLACE; TURN: it is no EDGE, or one of one TRIANGLE; OUT: it is a CORNER, or of more "
            + "TRIANGLES; 3 a CORNER is MOVED, a PLACE would not be on its SIDE; 4 there would be a FOLD (TURN: or an AREA "
            + "of HOMES not above 0); 5 there are 30 KNOTS.");
        insertRefused();
        insertFirstReason();
        moveRefused();
        turnRefused();
        turnByHomesOrPlaces();
        outRefused();
    }

    private static void insertRefused() {
        for (int[] dot : Scene.beyond(5, 5)) {
            doc.stays("1: insert, home beyond", Scene::middle, x -> x.insert(dot[0], dot[1], 2, 1), -1);
            doc.stays("1: insert, place beyond", Scene::middle, x -> x.insert(2, 1, dot[0], dot[1]), -1);
        }
        for (int knot = 0; knot < 9; knot++) {
            int[] k = Scene.homeAndPlace(Scene.sides(), knot);
            doc.stays("2: insert, the home of " + knot, Scene::sides, x -> x.insert(k[0], k[1], k[2], k[3]), -2);
        }
        doc.stays("3: insert, above", Scene::middle, x -> x.insert(2, 0, 2, 1), -3);
        doc.stays("3: insert, right", Scene::middle, x -> x.insert(4, 2, 3, 3), -3);
        doc.stays("3: insert, below", Scene::middle, x -> x.insert(2, 4, 2, 3), -3);
        doc.stays("3: insert, left", Scene::middle, x -> x.insert(0, 2, 1, 2), -3);
        doc.stays("4: insert on a side, at a corner", Scene::middle, x -> x.insert(2, 0, 0, 0), -4);
        doc.stays("4: insert on a side, at the other corner", Scene::middle, x -> x.insert(2, 0, 4, 0), -4);
        doc.stays("4: insert on a side, past another knot", Scene::sides, x -> x.insert(1, 0, 4, 0), -4);
        doc.stays("4: insert on a side, at another knot", Scene::sides, x -> x.insert(1, 0, 3, 0), -4);
        doc.stays("4: insert within an edge, at the rim", () -> Scene.sized(5, 5), x -> x.insert(2, 2, 0, 2), -4);
        doc.stays("5: insert within", Scene::thirty, x -> x.insert(18, 18, 18, 18), -5);
        doc.stays("5: insert on a side", Scene::thirty, x -> x.insert(0, 9, 0, 9), -5);
        BentPicture x = Scene.thirty();
        doc.due("29 knots", x.out(29), 0);
        doc.due("the 30th", x.insert(18, 18, 18, 18), 29);
        doc.due("5: the 31st", x.insert(17, 18, 17, 18), -5);
    }

    private static void insertFirstReason() {
        doc.stays("1 ahead of 2", Scene::middle, x -> x.insert(2, 2, 5, 2), -1);
        doc.stays("1 ahead of 3", Scene::middle, x -> x.insert(0, 2, -1, 2), -1);
        doc.stays("1 ahead of 4", Scene::middle, x -> x.insert(2, 1, 2, 5), -1);
        doc.stays("1 ahead of 5", Scene::thirty, x -> x.insert(18, 18, 18, 20), -1);
        doc.stays("1 ahead of 2 and 5", Scene::thirty, x -> x.insert(1, 2, 20, 2), -1);
        doc.stays("2 ahead of 3: a corner", Scene::middle, x -> x.insert(0, 0, 1, 1), -2);
        doc.stays("2 ahead of 3: on a side", Scene::sides, x -> x.insert(2, 0, 2, 1), -2);
        doc.stays("2 ahead of 4", Scene::middle, x -> x.insert(2, 2, 0, 0), -2);
        doc.stays("2 ahead of 5", Scene::thirty, x -> x.insert(1, 2, 1, 2), -2);
        doc.stays("2 ahead of 3 and 5", Scene::rim, x -> x.insert(1, 0, 1, 1), -2);
        doc.stays("3 ahead of 4", Scene::middle, x -> x.insert(2, 0, 2, 4), -3);
        doc.stays("3 ahead of 4 and 5", Scene::thirty, x -> x.insert(0, 9, 19, 9), -3);
        doc.stays("3 ahead of 5", Scene::thirty, x -> x.insert(0, 1, 1, 1), -3);
        doc.stays("4 ahead of 5", Scene::thirty, x -> x.insert(18, 18, 0, 19), -4);
        doc.stays("4 ahead of 5, on a side", Scene::rim, x -> x.insert(19, 9, 19, 0), -4);
    }

    private static void moveRefused() {
        doc.stays("1: move, the knot behind the last", Scene::sides, x -> x.move(9, 4, 2), 1);
        doc.stays("1: move, knot -1", Scene::sides, x -> x.move(-1, 4, 2), 1);
        doc.stays("1: move, the 31st", Scene::thirty, x -> x.move(30, 4, 2), 1);
        for (int[] dot : Scene.beyond(7, 6)) {
            doc.stays("1: move, place beyond", Scene::sides, x -> x.move(8, dot[0], dot[1]), 1);
            doc.stays("1 ahead of 3: move a corner beyond", Scene::sides, x -> x.move(2, dot[0], dot[1]), 1);
            doc.stays("1 ahead of 3: move off its side, beyond", Scene::sides, x -> x.move(4, dot[0], dot[1]), 1);
            doc.stays("1: move no knot beyond", Scene::sides, x -> x.move(9, dot[0], dot[1]), 1);
        }
        for (int knot = 0; knot < 9; knot++) {
            int k = knot;
            int[] own = Scene.homeAndPlace(Scene.sides(), k);
            doc.stays("2: move, its place; ahead of 3", Scene::sides, x -> x.move(k, own[2], own[3]), 2);
        }
        doc.due("its home is not its place", Scene.middle().move(4, 2, 2), 0);
        doc.stays("3: move a corner", Scene::sides, x -> x.move(1, 5, 0), 3);
        doc.stays("3 ahead of 4: move a corner across", Scene::sides, x -> x.move(0, 6, 5), 3);
        doc.stays("3: move off its side", Scene::sides, x -> x.move(4, 3, 1), 3);
        doc.stays("3 ahead of 4: move off its side", Scene::sides, x -> x.move(4, 6, 5), 3);
        doc.stays("3 ahead of 4: to another side", Scene::sides, x -> x.move(5, 0, 2), 3);
        doc.stays("4: move to a corner", Scene::sides, x -> x.move(5, 6, 0), 4);
        doc.stays("4: move to the other corner", Scene::sides, x -> x.move(5, 6, 5), 4);
        doc.stays("4: move onto the edge across", Scene::sides, x -> x.move(4, 1, 0), 4);
        doc.stays("4: move onto the place of a knot", Scene::sides, x -> x.move(8, 3, 0), 4);
        doc.due("up to an edge of the knots behind it", inner().move(4, 4, 4), 0);
        doc.stays("4: move over it", ActsTermsTest::inner, x -> x.move(4, 5, 5), 4);
        doc.due("another edge", inner().move(5, 6, 3), 0);
        doc.due("4: move onto it", movedInner().move(4, 4, 5), 4);
        doc.due("up to it", movedInner().move(4, 4, 4), 0);
        doc.due("30 knots are no reason", Scene.thirty().move(29, 1, 18), 0);
    }

    private static void turnRefused() {
        doc.stays("1: turn, the knot behind the last", Scene::sides, x -> x.turn(0, 9), 1);
        doc.stays("1: turn, told the other way", Scene::sides, x -> x.turn(9, 0), 1);
        doc.stays("1: turn, knot -1", Scene::sides, x -> x.turn(0, -1), 1);
        doc.stays("1 ahead of 2: one that is none, twice", Scene::sides, x -> x.turn(9, 9), 1);
        for (int knot = 0; knot < 9; knot++) {
            int k = knot;
            doc.stays("2: turn, one knot", Scene::sides, x -> x.turn(k, k), 2);
        }
        doc.stays("2: turn, no edge", Scene::sides, x -> x.turn(1, 3), 2);
        doc.stays("2: turn, an edge until a knot came", Scene::sides, x -> x.turn(0, 1), 2);
        int[][] onRim = {{0, 4}, {4, 1}, {1, 5}, {5, 2}, {2, 6}, {6, 3}, {3, 7}, {7, 0}};
        for (int[] e : onRim) {
            doc.stays("2: turn, of one triangle", Scene::sides, x -> x.turn(e[0], e[1]), 2);
            doc.stays("2: turn, of one triangle, told the other way", Scene::sides, x -> x.turn(e[1], e[0]), 2);
        }
        int[][] flat = {{0, 8}, {4, 8}, {2, 8}, {4, 5}, {6, 7}};
        for (int[] e : flat) {
            doc.stays("4: turn", Scene::sides, x -> x.turn(e[0], e[1]), 4);
            doc.stays("4: turn, told the other way", Scene::sides, x -> x.turn(e[1], e[0]), 4);
        }
        int[][] free = {{0, 2}, {0, 6}, {2, 4}};
        for (int[] e : free) {
            doc.due("none of these", Scene.sides().turn(e[0], e[1]), 0);
        }
    }

    /** 5 by 5, the knot 4 on the first diagonal: its edges to 0 and 2 turn if it is farther than the other diagonal. */
    private static BentPicture diagonal(int home, int place) {
        BentPicture x = Scene.sized(5, 5);
        x.insert(home, home, place, place);
        return x;
    }

    private static void turnByHomesOrPlaces() {
        doc.stays("4: an area of homes of 0", () -> diagonal(2, 3), x -> x.turn(0, 4), 4);
        doc.stays("4: an area of homes below 0", () -> diagonal(1, 3), x -> x.turn(0, 4), 4);
        doc.stays("4: an area of places of 0", () -> diagonal(3, 2), x -> x.turn(0, 4), 4);
        doc.stays("4: an area of places below 0", () -> diagonal(3, 1), x -> x.turn(0, 4), 4);
        doc.due("0: all above 0", diagonal(3, 3).turn(0, 4), 0);
        doc.stays("4: an area of homes of 0, the other edge", () -> diagonal(2, 1), x -> x.turn(4, 2), 4);
        doc.stays("4: an area of homes below 0, the other edge", () -> diagonal(3, 1), x -> x.turn(4, 2), 4);
        doc.stays("4: an area of places of 0, the other edge", () -> diagonal(1, 2), x -> x.turn(4, 2), 4);
        doc.stays("4: an area of places below 0, the other edge", () -> diagonal(1, 3), x -> x.turn(4, 2), 4);
        doc.due("0: all above 0, the other edge", diagonal(1, 1).turn(4, 2), 0);
    }

    private static void outRefused() {
        doc.stays("1: out, the knot behind the last", Scene::sides, x -> x.out(9), 1);
        doc.stays("1: out, knot -1", Scene::sides, x -> x.out(-1), 1);
        doc.stays("1: out, the 31st", Scene::thirty, x -> x.out(30), 1);
        for (int corner = 0; corner < 4; corner++) {
            int k = corner;
            doc.stays("2: out, a corner of one or two triangles", Scene::first, x -> x.out(k), 2);
            doc.stays("2: out, a corner of 2 by 2", () -> Scene.sized(2, 2), x -> x.out(k), 2);
            doc.stays("2: out, a corner", Scene::sides, x -> x.out(k), 2);
        }
        doc.due("a corner of two, as a knot on a side", Scene.first().knot(0, 4), 2);
        doc.due("a corner of three, as a knot within", cornerOfThree().knot(0, 4), 3);
        doc.stays("2: out, that corner", ActsTermsTest::cornerOfThree, x -> x.out(0), 2);
        doc.stays("2: out, of three on a side", Scene::sides, x -> x.out(6), 2);
        doc.stays("2: out, of four on a side", Scene::sides, x -> x.out(4), 2);
        doc.stays("2: out, of four within", Scene::middle, x -> x.out(4), 2);
        doc.due("30 knots are no reason", Scene.thirty().out(29), 0);
    }

    private static BentPicture cornerOfThree() {
        BentPicture x = Scene.first();
        x.insert(2, 1, 2, 1);
        return x;
    }
}
