/** Each promise of the document with answers worked out by hand: ordinary inputs, edges, wrong inputs. */
final class PromiseTest {
    private static final Check CHECK = new Check("PromiseTest");
    private static final int[] WILD = {Integer.MIN_VALUE, -5, -1, 0, 1, 2, 3, 7, 19, 20, 30, 400, Integer.MAX_VALUE};
    /** The nearest dots of the middle net (see there), a row a line. */
    private static final int[] NEAR = {
        0, 1, 2, 3, 4,
        5, 6, 6, 7, 9,
        10, 11, 11, 12, 14,
        15, 16, 16, 17, 19,
        20, 21, 22, 23, 24};

    private PromiseTest() {
    }

    public static void main(String[] args) {
        newObject();
        size();
        paint();
        weave();
        value();
        insert();
        insertReasons();
        insertThirty();
        move();
        turn();
        turnFlat();
        out();
        straight();
        carry();
        knot();
        triangle();
        edge();
        count();
        find();
        share();
        from();
        to();
        nearest();
        blend();
        usesAndLost();
        traceAndLoops();
        room();
        reach();
        bent();
        stretch();
        wildArguments();
        CHECK.end();
    }

    private static void due(String call, int got, int want) {
        CHECK.due(call, got, want);
    }

    private static void dueAll(String call, int[] got, int... want) {
        CHECK.due(call + ": how many", got.length, want.length);
        for (int i = 0; i < got.length && i < want.length; i++) {
            CHECK.due(call + " [" + i + "]", got[i], want[i]);
        }
    }

    private static int[] knots(BentPicture x, int t) {
        return new int[] {x.triangle(t, 0), x.triangle(t, 1), x.triangle(t, 2)};
    }

    private static int[] homeAndPlace(BentPicture x, int k) {
        return new int[] {x.knot(k, 0), x.knot(k, 1), x.knot(k, 2), x.knot(k, 3)};
    }

    private static int[] counts(BentPicture x, int from, int to) {
        int[] all = new int[to - from + 1];
        for (int i = 0; i < all.length; i++) {
            all[i] = x.count(from + i);
        }
        return all;
    }

    /** 5 by 5, a knot with its home in the middle and its place one to the right of it. */
    private static BentPicture middle() {
        BentPicture x = new BentPicture();
        CHECK.due("size(5, 5)", x.size(5, 5), true);
        due("weave(0) of 5 by 5", x.weave(0), sumOfWeave());
        due("insert(2, 2, 3, 2)", x.insert(2, 2, 3, 2), 4);
        return x;
    }

    private static int woven(int x, int y) {
        return (7 * x + 13 * y + x * y) % 16;
    }

    private static int sumOfWeave() {
        int sum = 0;
        for (int d = 0; d < 25; d++) {
            sum += woven(d % 5, d / 5);
        }
        return sum;
    }

    private static void isNew(BentPicture x, int w, int h) {
        dueAll("new: W, H, knots, triangles, edges, to turn, moved, values, taken",
            counts(x, 0, 8), w, h, 4, 2, 5, 1, 0, 0, 0);
        dueAll("new: triangle 0", knots(x, 0), 0, 1, 2);
        dueAll("new: triangle 1", knots(x, 1), 0, 2, 3);
        dueAll("new: knot 0", homeAndPlace(x, 0), 0, 0, 0, 0);
        dueAll("new: knot 1", homeAndPlace(x, 1), w - 1, 0, w - 1, 0);
        dueAll("new: knot 2", homeAndPlace(x, 2), w - 1, h - 1, w - 1, h - 1);
        dueAll("new: knot 3", homeAndPlace(x, 3), 0, h - 1, 0, h - 1);
        due("new: area", x.triangle(1, 3), (w - 1) * (h - 1));
        for (int d = 0; d < w * h; d++) {
            due("new: value", x.value(d % w, d / w, false), 0);
            due("new: nearest", x.nearest(d % w, d / w), d);
        }
        due("new: beyond", x.value(w, 0, false), -1);
        due("new: beyond", x.value(0, h, false), -1);
    }

    private static void newObject() {
        isNew(new BentPicture(), 5, 4);
        due("NONE", BentPicture.NONE, -1);
    }

    private static void size() {
        BentPicture x = middle();
        int[][] wrong = {{1, 2}, {2, 1}, {21, 20}, {20, 21}, {0, 0}, {-1, 5}, {5, -3},
            {Integer.MAX_VALUE, 5}, {5, Integer.MIN_VALUE}};
        for (int[] s : wrong) {
            CHECK.due("size(" + s[0] + ", " + s[1] + ")", x.size(s[0], s[1]), false);
        }
        dueAll("all stays", counts(x, 0, 7), 5, 5, 5, 4, 8, x.count(5), 1, sumOfWeave());
        int[][] right = {{5, 5}, {2, 2}, {20, 20}, {2, 20}, {20, 2}, {5, 4}};
        for (int[] s : right) {
            x.weave(3);
            CHECK.due("size(" + s[0] + ", " + s[1] + ")", x.size(s[0], s[1]), true);
            isNew(x, s[0], s[1]);
        }
    }

    private static void paint() {
        BentPicture x = new BentPicture();
        due("paint(0, 0, 15)", x.paint(0, 0, 15), 0);
        due("paint(0, 0, 0)", x.paint(0, 0, 0), 15);
        due("paint(4, 3, 9)", x.paint(4, 3, 9), 0);
        due("paint(4, 3, 9)", x.paint(4, 3, 9), 9);
        due("paint(4, 3, 16)", x.paint(4, 3, 16), -1);
        due("paint(4, 3, -1)", x.paint(4, 3, -1), -1);
        due("paint(5, 3, 1)", x.paint(5, 3, 1), -1);
        due("paint(4, 4, 1)", x.paint(4, 4, 1), -1);
        due("paint(-1, 0, 1)", x.paint(-1, 0, 1), -1);
        due("paint(0, -1, 1)", x.paint(0, -1, 1), -1);
        due("value(4, 3, false)", x.value(4, 3, false), 9);
        due("count(7)", x.count(7), 9);
    }

    private static void weave() {
        BentPicture x = new BentPicture();
        due("weave(0)", x.weave(0), 170);
        due("value(2, 1, false)", x.value(2, 1, false), 13);
        due("value(4, 3, false)", x.value(4, 3, false), 15);
        due("weave(16)", x.weave(16), 170);
        x.weave(-1);
        due("weave(-1), value(0, 0)", x.value(0, 0, false), 15);
        due("weave(-1), value(1, 0)", x.value(1, 0, false), 6);
        x.weave(Integer.MAX_VALUE);
        due("weave(greatest), value(0, 0)", x.value(0, 0, false), 15);
        due("weave(greatest), value(2, 1)", x.value(2, 1, false), 12);
        due("weave(least)", x.weave(Integer.MIN_VALUE), 170);
    }

    private static void value() {
        BentPicture x = middle();
        due("value(3, 1, false)", x.value(3, 1, false), woven(3, 1));
        due("value(3, 1, true)", x.value(3, 1, true), woven(2, 1));
        due("value(3, 2, true)", x.value(3, 2, true), woven(2, 2));
        x.paint(2, 1, 4);
        due("value(3, 1, true)", x.value(3, 1, true), 4);
        due("value(5, 1, true)", x.value(5, 1, true), -1);
        due("value(1, 5, true)", x.value(1, 5, true), -1);
        due("value(-1, 1, false)", x.value(-1, 1, false), -1);
        due("value(1, -1, false)", x.value(1, -1, false), -1);
    }

    private static void insert() {
        BentPicture x = middle();
        dueAll("within an edge of two: 0", knots(x, 0), 0, 1, 4);
        dueAll("within an edge of two: 1", knots(x, 1), 0, 4, 3);
        dueAll("within an edge of two: 2", knots(x, 2), 1, 2, 4);
        dueAll("within an edge of two: 3", knots(x, 3), 2, 3, 4);
        due("within a triangle", x.insert(2, 1, 2, 1), 5);
        dueAll("counts", counts(x, 2, 4), 6, 6, 11);
        dueAll("within a triangle: 0", knots(x, 0), 0, 1, 5);
        dueAll("within a triangle: 1", knots(x, 1), 0, 4, 3);
        dueAll("within a triangle: 2", knots(x, 2), 0, 5, 4);
        dueAll("within a triangle: 3", knots(x, 3), 1, 2, 4);
        dueAll("within a triangle: 4", knots(x, 4), 1, 4, 5);
        dueAll("within a triangle: 5", knots(x, 5), 2, 3, 4);
        due("on a side", x.insert(0, 3, 0, 1), 6);
        dueAll("counts", counts(x, 2, 4), 7, 7, 13);
        dueAll("on a side: 1", knots(x, 1), 0, 4, 6);
        dueAll("on a side: 6", knots(x, 6), 3, 6, 4);
        dueAll("knot 6", homeAndPlace(x, 6), 0, 3, 0, 1);
        due("on each side", x.insert(1, 0, 1, 0), 7);
        due("on each side", x.insert(4, 1, 4, 1), 8);
        due("on each side", x.insert(3, 4, 3, 4), 9);
        dueAll("counts", counts(x, 2, 4), 10, 10, 19);
    }

    private static void insertReasons() {
        BentPicture x = middle();
        due("1: home beyond", x.insert(5, 2, 1, 1), -1);
        due("1: home beyond", x.insert(2, -1, 1, 1), -1);
        due("1: place beyond", x.insert(1, 1, 5, 1), -1);
        due("1 ahead of 2", x.insert(2, 2, 2, 5), -1);
        due("1 ahead of 3", x.insert(0, 2, -1, 2), -1);
        due("2: a home", x.insert(2, 2, 2, 2), -2);
        due("2 ahead of 3: a corner's home", x.insert(0, 0, 1, 1), -2);
        due("2 ahead of 4", x.insert(2, 2, 4, 4), -2);
        due("3: left side", x.insert(0, 2, 1, 2), -3);
        due("3: right side", x.insert(4, 2, 3, 2), -3);
        due("3: upper side", x.insert(2, 0, 2, 1), -3);
        due("3: lower side", x.insert(2, 4, 2, 3), -3);
        due("3 ahead of 4", x.insert(2, 0, 4, 4), -3);
        due("4: a place on a side, a home within", x.insert(2, 1, 2, 0), -4);
        due("4: a place in another triangle", x.insert(2, 1, 2, 3), -4);
        due("4: a place of another knot", x.insert(2, 1, 3, 2), -4);
        due("4: on a side, at a corner", x.insert(2, 0, 4, 0), -4);
        dueAll("all stays", counts(x, 2, 4), 5, 4, 8);
        due("a place other than any home", x.insert(2, 1, 3, 1), 5);
        due("a home that is a place", x.insert(3, 2, 3, 3), -4);
        CHECK.due("size(2, 2)", x.size(2, 2), true);
        due("2 by 2 has corners alone", x.insert(1, 0, 1, 0), -2);
        CHECK.due("size(2, 20)", x.size(2, 20), true);
        due("2 by 20: on a side", x.insert(0, 9, 0, 1), 4);
        due("2 by 20: the other side", x.insert(1, 9, 0, 9), -3);
        due("2 by 20: the other side", x.insert(1, 9, 1, 18), 5);
        due("2 by 20: kind", x.knot(5, 5), 1);
    }

    private static BentPicture thirty() {
        BentPicture x = new BentPicture();
        x.size(20, 20);
        for (int i = 0; i < 26; i++) {
            due("insert number " + (4 + i), x.insert(1 + 3 * (i % 5), 2 + 3 * (i / 5), 1 + 3 * (i % 5), 2 + 3 * (i / 5)),
                4 + i);
        }
        return x;
    }

    private static void insertThirty() {
        BentPicture x = thirty();
        dueAll("30 knots", counts(x, 2, 4), 30, 54, 83);
        due("the 31st", x.insert(19, 19, 19, 19), -2);
        due("the 31st", x.insert(18, 18, 18, 18), -5);
        due("5 on a side", x.insert(0, 9, 0, 9), -5);
        due("4 ahead of 5", x.insert(18, 18, 0, 19), -4);
        due("3 ahead of 5", x.insert(0, 9, 1, 9), -3);
        due("2 ahead of 5", x.insert(1, 2, 1, 2), -2);
        due("1 ahead of 5", x.insert(20, 2, 1, 2), -1);
        dueAll("all stays", counts(x, 2, 4), 30, 54, 83);
        due("knot 29", x.knot(29, 1), 17);
        due("knot 30", x.knot(30, 1), -1);
        due("move knot 29", x.move(29, 1, 18), 0);
        due("out knot 29", x.out(29), 0);
        dueAll("29 knots", counts(x, 2, 4), 29, 52, 80);
        due("insert again", x.insert(0, 9, 0, 9), 29);
        dueAll("30 knots, one on a side", counts(x, 2, 4), 30, 53, 82);
    }

    private static void move() {
        BentPicture x = middle();
        due("1: no knot", x.move(5, 2, 2), 1);
        due("1: no knot", x.move(-1, 2, 2), 1);
        due("1: no dot", x.move(4, 5, 2), 1);
        due("1: no dot", x.move(4, 2, -1), 1);
        due("1 ahead of 3", x.move(0, 5, 0), 1);
        due("2: its place", x.move(4, 3, 2), 2);
        due("2 ahead of 3: a corner", x.move(1, 4, 0), 2);
        due("3: a corner", x.move(1, 3, 0), 3);
        due("4: on a side", x.move(4, 4, 2), 4);
        due("4: at a corner", x.move(4, 0, 0), 4);
        dueAll("stays", homeAndPlace(x, 4), 2, 2, 3, 2);
        due("0", x.move(4, 1, 3), 0);
        dueAll("moved", homeAndPlace(x, 4), 2, 2, 1, 3);
        due("insert(0, 2, 0, 2)", x.insert(0, 2, 0, 2), 5);
        due("3: off its side", x.move(5, 1, 2), 3);
        due("3 ahead of 4", x.move(5, 4, 4), 3);
        due("4: at a corner along its side", x.move(5, 0, 4), 4);
        due("0: along its side", x.move(5, 0, 3), 0);
        due("insert(0, 1, 0, 1)", x.insert(0, 1, 0, 1), 6);
        due("4: past another one", x.move(6, 0, 3), 4);
        due("0: up to it", x.move(6, 0, 2), 0);
    }

    private static void turn() {
        BentPicture x = new BentPicture();
        due("1: no knot", x.turn(0, 4), 1);
        due("1: no knot", x.turn(-1, 0), 1);
        due("2: no edge", x.turn(1, 3), 2);
        due("2: one knot", x.turn(1, 1), 2);
        due("2: of one triangle", x.turn(0, 1), 2);
        due("0", x.turn(2, 0), 0);
        dueAll("turned: 0", knots(x, 0), 0, 1, 3);
        dueAll("turned: 1", knots(x, 1), 1, 2, 3);
        due("2: no edge any more", x.turn(0, 2), 2);
        due("0: back", x.turn(1, 3), 0);
        dueAll("back: 0", knots(x, 0), 0, 1, 2);
        dueAll("back: 1", knots(x, 1), 0, 2, 3);
        due("find by homes", x.find(4, 0, true), 0);
        x.turn(0, 2);
        due("find by homes", x.find(4, 3, true), 1);
        due("find by places", x.find(4, 3, false), 1);
        due("find by places", x.find(2, 2, false), 1);
        due("find by places", x.find(2, 1, false), 0);
    }

    private static void turnFlat() {
        BentPicture x = middle();
        x.move(4, 3, 3);
        due("4: flat by homes", x.turn(0, 4), 4);
        due("4: flat by homes", x.edge(4, 0, 3), 0);
        due("edges to turn", x.count(5), 0);
        x.size(5, 5);
        due("insert(3, 3, 2, 2)", x.insert(3, 3, 2, 2), 4);
        due("4: flat by places", x.turn(0, 4), 4);
        due("4: flat by places", x.edge(0, 4, 3), 0);
        due("4: folded", x.turn(4, 2), 4);
        due("edges to turn", x.count(5), 0);
        due("move(4, 3, 3)", x.move(4, 3, 3), 0);
        due("edges to turn", x.count(5), 1);
        due("0", x.turn(4, 0), 0);
        dueAll("turned: 0", knots(x, 0), 0, 1, 3);
        dueAll("turned: 1", knots(x, 1), 1, 2, 4);
        dueAll("turned: 2", knots(x, 2), 1, 4, 3);
        dueAll("turned: 3", knots(x, 3), 2, 3, 4);
    }

    private static void out() {
        BentPicture x = middle();
        due("move(4, 2, 3)", x.move(4, 2, 3), 0);
        due("insert(1, 0, 1, 0)", x.insert(1, 0, 1, 0), 5);
        due("insert(3, 0, 3, 0)", x.insert(3, 0, 3, 0), 6);
        due("insert(2, 1, 2, 1)", x.insert(2, 1, 2, 1), 7);
        due("1: no knot", x.out(8), 1);
        due("1: no knot", x.out(-1), 1);
        due("2: a corner", x.out(1), 2);
        due("2: of more, within", x.out(4), 2);
        due("2: of more, on a side", x.out(5), 2);
        due("triangles of 5", x.knot(5, 4), 3);
        due("0: within", x.out(7), 0);
        due("triangles of 5", x.knot(5, 4), 2);
        due("0: on a side", x.out(5), 0);
        dueAll("the one behind comes up", homeAndPlace(x, 5), 3, 0, 3, 0);
        due("no more knots", x.knot(6, 0), -1);
        dueAll("counts", counts(x, 2, 4), 6, 5, 10);
        dueAll("left: 0", knots(x, 0), 0, 4, 3);
        dueAll("left: 1", knots(x, 1), 0, 5, 4);
        dueAll("left: 2", knots(x, 2), 1, 2, 4);
        dueAll("left: 3", knots(x, 3), 1, 4, 5);
        dueAll("left: 4", knots(x, 4), 2, 3, 4);
        due("2: four within", x.out(4), 2);
        due("0: on a side", x.out(5), 0);
        due("2: four within", x.out(4), 2);
        due("insert again", x.insert(2, 4, 2, 4), 5);
    }

    private static void straight() {
        BentPicture x = middle();
        x.insert(0, 2, 0, 3);
        x.insert(2, 4, 2, 4);
        due("moved", x.count(6), 2);
        due("from ahead", x.from(3, 2, 0), 2);
        due("straight()", x.straight(), 2);
        due("straight() again", x.straight(), 0);
        dueAll("knot 4", homeAndPlace(x, 4), 2, 2, 2, 2);
        dueAll("knot 5", homeAndPlace(x, 5), 0, 2, 0, 2);
        due("from behind", x.from(3, 2, 0), 3);
        due("moved", x.count(6), 0);
    }

    private static void carry() {
        BentPicture x = middle();
        int changed = 0;
        for (int d = 0; d < 25; d++) {
            changed += woven(d % 5, d / 5) != woven(NEAR[d] % 5, NEAR[d] / 5) ? 1 : 0;
        }
        due("carry()", x.carry(), changed);
        for (int d = 0; d < 25; d++) {
            due("carried " + d, x.value(d % 5, d / 5, false), woven(NEAR[d] % 5, NEAR[d] / 5));
        }
        due("carry() again changes the dot right of the second only", x.value(3, 1, true), woven(1, 1));
        x.straight();
        due("carry() straight", x.carry(), 0);
    }

    private static void knot() {
        BentPicture x = middle();
        x.insert(0, 2, 0, 3);
        dueAll("knot 4", homeAndPlace(x, 4), 2, 2, 3, 2);
        dueAll("knot 5", homeAndPlace(x, 5), 0, 2, 0, 3);
        due("triangles of a corner", x.knot(0, 4), 2);
        due("triangles of 4", x.knot(4, 4), 5);
        due("triangles of 5", x.knot(5, 4), 2);
        due("a corner", x.knot(3, 5), 0);
        due("on a side", x.knot(5, 5), 1);
        due("within", x.knot(4, 5), 2);
        due("another what", x.knot(4, 6), -1);
        due("another what", x.knot(4, -1), -1);
        due("no knot", x.knot(6, 0), -1);
        due("no knot", x.knot(-1, 0), -1);
    }

    private static void triangle() {
        BentPicture x = middle();
        int[] places = {8, 12, 4, 8};
        int[] dots = {8, 8, 4, 5};
        for (int t = 0; t < 4; t++) {
            due("area of homes " + t, x.triangle(t, 3), 8);
            due("area of places " + t, x.triangle(t, 4), places[t]);
            due("dots " + t, x.triangle(t, 5), dots[t]);
            due("another what", x.triangle(t, 6), -1);
            due("another what", x.triangle(t, -1), -1);
        }
        due("no triangle", x.triangle(4, 0), -1);
        due("no triangle", x.triangle(4, 5), -1);
        due("no triangle", x.triangle(-1, 3), -1);
    }

    private static void edge() {
        BentPicture x = middle();
        due("of two", x.edge(0, 4, 0), 2);
        due("of two, the other way", x.edge(4, 0, 0), 2);
        due("of one", x.edge(1, 2, 0), 1);
        due("by homes", x.edge(0, 4, 1), 8);
        due("by places", x.edge(4, 0, 2), 13);
        due("a side by homes", x.edge(0, 3, 1), 16);
        due("can't be turned", x.edge(0, 4, 3), 0);
        due("of one can't be turned", x.edge(0, 1, 3), 0);
        due("no edge", x.edge(0, 2, 0), -1);
        due("no edge", x.edge(1, 3, 3), -1);
        due("one knot", x.edge(4, 4, 0), -1);
        due("no knot", x.edge(0, 5, 1), -1);
        due("no knot", x.edge(-1, 0, 1), -1);
        due("another what", x.edge(0, 4, 4), -1);
        due("another what", x.edge(0, 4, -1), -1);
        x.size(20, 20);
        due("the longest", x.edge(0, 2, 1), 722);
        due("can be turned", x.edge(2, 0, 3), 1);
    }

    private static void count() {
        BentPicture x = middle();
        int taken = 0;
        for (int d : NEAR) {
            taken += woven(d % 5, d / 5);
        }
        dueAll("counts", counts(x, -1, 10), -1, 5, 5, 5, 4, 8, 0, 1, sumOfWeave(), taken, 5, -1);
        x.straight();
        due("both diagonals", x.count(9), 9);
        due("all taken", x.count(8), sumOfWeave());
        due("another what", x.count(Integer.MAX_VALUE), -1);
    }

    private static void find() {
        BentPicture x = middle();
        due("at a knot, by places", x.find(3, 2, false), 0);
        due("at a knot, by homes", x.find(2, 2, true), 0);
        due("at a corner", x.find(4, 4, false), 2);
        due("on an edge, by homes", x.find(3, 3, true), 2);
        due("within, by places", x.find(3, 3, false), 3);
        due("within, by places", x.find(2, 2, false), 1);
        due("on a side", x.find(4, 1, false), 2);
        due("no dot", x.find(5, 0, true), -1);
        due("no dot", x.find(0, 5, false), -1);
        due("no dot", x.find(-1, 0, false), -1);
        due("no dot", x.find(0, -1, true), -1);
        x.move(4, 2, 2);
        due("behind a move", x.find(3, 3, false), 2);
    }

    private static int[] shares(BentPicture x, int dx, int dy) {
        return new int[] {x.share(dx, dy, 0), x.share(dx, dy, 1), x.share(dx, dy, 2), x.share(dx, dy, 3)};
    }

    private static void share() {
        BentPicture x = middle();
        dueAll("thirds", shares(x, 1, 2), 1, 1, 1, 3);
        dueAll("sixths", shares(x, 2, 2), 1, 4, 1, 6);
        dueAll("twelfths", shares(x, 1, 1), 7, 4, 1, 12);
        dueAll("on a side", shares(x, 0, 1), 3, 0, 1, 4);
        dueAll("at a knot", shares(x, 3, 2), 0, 0, 1, 1);
        due("another what", x.share(1, 1, 4), -1);
        due("another what", x.share(1, 1, -1), -1);
        due("no dot", x.share(5, 1, 0), -1);
        due("no dot", x.share(1, -1, 3), -1);
    }

    private static int[] fromOf(BentPicture x, int dx, int dy) {
        return new int[] {x.from(dx, dy, 0), x.from(dx, dy, 1), x.from(dx, dy, 2)};
    }

    private static void from() {
        BentPicture x = middle();
        dueAll("thirds in x alone", fromOf(x, 1, 2), 2, 6, 3);
        dueAll("thirds", fromOf(x, 2, 2), 4, 6, 3);
        dueAll("halves", fromOf(x, 2, 1), 3, 2, 2);
        dueAll("at a knot", fromOf(x, 3, 2), 2, 2, 1);
        dueAll("at the first corner", fromOf(x, 0, 0), 0, 0, 1);
        dueAll("on a side", fromOf(x, 4, 3), 4, 3, 1);
        due("another what", x.from(1, 1, 3), -1);
        due("another what", x.from(1, 1, -1), -1);
        due("no dot", x.from(-1, 1, 0), -1);
        due("no dot", x.from(1, 5, 2), -1);
    }

    private static int[] toOf(BentPicture x, int dx, int dy) {
        return new int[] {x.to(dx, dy, 0), x.to(dx, dy, 1), x.to(dx, dy, 2)};
    }

    private static void to() {
        BentPicture x = middle();
        dueAll("halves", toOf(x, 1, 2), 3, 4, 2);
        dueAll("at a knot", toOf(x, 2, 2), 3, 2, 1);
        dueAll("within an edge", toOf(x, 1, 1), 3, 2, 2);
        dueAll("at the first corner", toOf(x, 0, 0), 0, 0, 1);
        dueAll("on a side", toOf(x, 2, 4), 2, 4, 1);
        due("another what", x.to(1, 1, 3), -1);
        due("another what", x.to(1, 1, -1), -1);
        due("no dot", x.to(5, 1, 0), -1);
        due("no dot", x.to(1, -1, 2), -1);
    }

    private static void nearest() {
        BentPicture x = middle();
        for (int d = 0; d < 25; d++) {
            due("nearest of " + d, x.nearest(d % 5, d / 5), NEAR[d]);
        }
        due("no dot", x.nearest(5, 0), -1);
        due("no dot", x.nearest(0, -1), -1);
        x.size(5, 5);
        x.insert(2, 2, 2, 3);
        due("as near: the lesser y", x.nearest(1, 2), 6);
        due("as near: the lesser y", x.nearest(1, 3), 11);
    }

    private static void blend() {
        BentPicture x = middle();
        due("thirds, above", x.blend(1, 2, 0), 16);
        due("thirds, below", x.blend(1, 2, 1), 3);
        due("at a knot, above", x.blend(3, 2, 0), woven(2, 2));
        due("at a knot, below", x.blend(3, 2, 1), 1);
        due("at the last corner", x.blend(4, 4, 0), woven(4, 4));
        x.paint(1, 1, 8);
        x.paint(2, 1, 3);
        due("halves, above", x.blend(2, 1, 0), 11);
        due("halves, below", x.blend(2, 1, 1), 2);
        x.paint(2, 1, 8);
        due("whole again, above", x.blend(2, 1, 0), 8);
        due("whole again, below", x.blend(2, 1, 1), 1);
        due("another what", x.blend(2, 1, 2), -1);
        due("another what", x.blend(2, 1, -1), -1);
        due("no dot", x.blend(5, 1, 0), -1);
        due("no dot", x.blend(1, -1, 1), -1);
        x.size(5, 5);
        due("nothing, above", x.blend(2, 1, 0), 0);
        due("nothing, below", x.blend(2, 1, 1), 1);
        blendOfFour();
    }

    /** The dot 1, 1 comes from 2 thirds, 2 thirds: four dots, of ninths. */
    private static void blendOfFour() {
        BentPicture x = new BentPicture();
        x.size(5, 5);
        due("insert(2, 2, 3, 3)", x.insert(2, 2, 3, 3), 4);
        dueAll("from", fromOf(x, 1, 1), 2, 2, 3);
        x.paint(0, 0, 1);
        x.paint(1, 0, 2);
        x.paint(0, 1, 4);
        x.paint(1, 1, 15);
        due("of four, above", x.blend(1, 1, 0), 1 + 2 * 2 + 2 * 4 + 4 * 15);
        due("of four, below", x.blend(1, 1, 1), 9);
    }

    private static void usesAndLost() {
        BentPicture x = middle();
        int[] uses = new int[25];
        for (int d : NEAR) {
            uses[d]++;
        }
        for (int d = 0; d < 25; d++) {
            due("uses of " + d, x.uses(d % 5, d / 5), uses[d]);
        }
        due("uses of two", x.uses(1, 1), 2);
        due("uses of none", x.uses(3, 1), 0);
        due("no dot", x.uses(5, 0), -1);
        due("no dot", x.uses(0, 5), -1);
        due("lost()", x.lost(), 3);
        x.straight();
        due("lost() straight", x.lost(), 0);
        x.size(20, 20);
        due("lost() of 20 by 20", x.lost(), 0);
    }

    private static void traceAndLoops() {
        BentPicture x = middle();
        due("trace 0", x.trace(3, 1, 0), 8);
        due("trace 1", x.trace(3, 1, 1), 7);
        due("trace 2", x.trace(3, 1, 2), 6);
        due("trace 3", x.trace(3, 1, 3), 6);
        due("trace 100", x.trace(3, 1, 100), 6);
        due("trace 101", x.trace(3, 1, 101), -1);
        due("trace -1", x.trace(3, 1, -1), -1);
        due("no dot", x.trace(5, 1, 0), -1);
        due("no dot", x.trace(3, -1, 1), -1);
        due("loops()", x.loops(), 19);
        due("loops() again", x.loops(), 19);
        x.size(20, 20);
        due("loops() of 20 by 20", x.loops(), 400);
        x.size(2, 2);
        due("loops() of 2 by 2", x.loops(), 4);
    }

    private static void room() {
        BentPicture x = middle();
        due("how many", x.room(4, -1), 9);
        int[] want = {6, 7, 8, 11, 12, 13, 16, 17, 18};
        for (int i = 0; i < want.length; i++) {
            due("room " + i, x.room(4, i), want[i]);
        }
        due("not so many", x.room(4, 9), -1);
        due("not so many", x.room(4, Integer.MAX_VALUE), -1);
        due("less than NONE", x.room(4, -2), -1);
        due("a corner: how many", x.room(2, -1), 1);
        due("a corner: its own", x.room(2, 0), 24);
        due("a corner: not so many", x.room(2, 1), -1);
        due("no knot", x.room(5, -1), -1);
        due("no knot", x.room(-1, 0), -1);
        due("insert(0, 2, 0, 1)", x.insert(0, 2, 0, 1), 5);
        due("on a side: how many", x.room(5, -1), 3);
        due("on a side: first", x.room(5, 0), 5);
        due("on a side: last", x.room(5, 2), 15);
        dueAll("none was moved", homeAndPlace(x, 4), 2, 2, 3, 2);
    }

    private static void reach() {
        BentPicture x = middle();
        due("to the left", x.reach(4, -1, 0), 2);
        due("to the right", x.reach(4, 1, 0), 0);
        due("up", x.reach(4, 0, -1), 1);
        due("left and up", x.reach(4, -1, -1), 1);
        due("by 2", x.reach(4, -2, 0), 1);
        due("by 3", x.reach(4, -3, 0), 0);
        due("beyond 3", x.reach(4, 4, 0), -1);
        due("beyond 3", x.reach(4, -4, 0), -1);
        due("beyond 3", x.reach(4, 0, 4), -1);
        due("beyond 3", x.reach(4, 0, Integer.MIN_VALUE), -1);
        due("both 0", x.reach(4, 0, 0), -1);
        due("a corner", x.reach(0, 1, 1), 0);
        due("no knot", x.reach(5, 1, 1), -1);
        due("no knot", x.reach(-1, 1, 1), -1);
        due("insert(2, 0, 1, 0)", x.insert(2, 0, 1, 0), 5);
        due("along its side", x.reach(5, 1, 0), 2);
        due("off its side", x.reach(5, 1, 1), 0);
        x.size(20, 20);
        due("insert(9, 9, 1, 1)", x.insert(9, 9, 1, 1), 4);
        due("far", x.reach(4, 1, 1), 17);
        due("far by 3", x.reach(4, 3, 2), 5);
        dueAll("it was not moved", homeAndPlace(x, 4), 9, 9, 1, 1);
    }

    /** Triangle 2, 5, 4 has an area of 1 by homes and by places, and -8 (t 2) to -32 (t 4) by 64 on the way. */
    private static void bent() {
        BentPicture x = new BentPicture();
        x.size(9, 8);
        due("insert(7, 3, 7, 3)", x.insert(7, 3, 7, 3), 4);
        due("insert(7, 4, 7, 4)", x.insert(7, 4, 7, 4), 5);
        due("move(5, 7, 6)", x.move(5, 7, 6), 0);
        due("move(4, 4, 2)", x.move(4, 4, 2), 0);
        dueAll("bent(-1) to bent(9)", bents(x), -1, 0, 0, 1, 1, 1, 1, 1, 0, 0, -1);
        x.straight();
        due("bent(4) straight", x.bent(4), 0);
        bentAtTheEdge();
    }

    private static int[] bents(BentPicture x) {
        int[] all = new int[11];
        for (int i = 0; i < all.length; i++) {
            all[i] = x.bent(i - 1);
        }
        return all;
    }

    private static void bentAtTheEdge() {
        BentPicture x = new BentPicture();
        x.size(9, 10);
        x.insert(1, 7, 1, 7);
        x.insert(4, 8, 4, 8);
        x.move(4, 2, 3);
        x.move(5, 2, 4);
        dueAll("an area of 0 at t 2", bents(x), -1, 0, 0, 1, 0, 0, 0, 0, 0, 0, -1);
        x.size(7, 9);
        x.insert(1, 0, 1, 0);
        x.insert(4, 5, 4, 5);
        x.move(4, 4, 0);
        x.move(5, 4, 2);
        dueAll("an area of 1 is above 0", bents(x), -1, 0, 0, 0, 0, 0, 0, 0, 0, 0, -1);
        x.size(7, 7);
        x.insert(5, 4, 5, 4);
        x.insert(4, 0, 4, 0);
        x.insert(0, 3, 0, 3);
        x.insert(1, 1, 1, 1);
        due("move(4, 5, 2)", x.move(4, 5, 2), 0);
        due("move(7, 4, 2)", x.move(7, 4, 2), 0);
        dueAll("the first triangle", bents(x), -1, 0, 0, 0, 1, 1, 0, 0, 0, 0, -1);
    }

    private static void stretch() {
        BentPicture x = middle();
        int[] want = {-1, 1, 2, 3, 2, 1, 2, -1};
        for (int i = 0; i < want.length; i++) {
            due("stretch(" + (i - 1) + ")", x.stretch(i - 1), want[i]);
        }
        x.move(4, 3, 3);
        int[] asGreat = {0, 2, 3, 2, 1, 2};
        for (int i = 0; i < asGreat.length; i++) {
            due("the first of two: stretch(" + i + ")", x.stretch(i), asGreat[i]);
        }
        x.straight();
        int[] even = {0, 0, 1, 1, 1, 1};
        for (int i = 0; i < even.length; i++) {
            due("straight: stretch(" + i + ")", x.stretch(i), even[i]);
        }
    }

    /** No call may throw, whatever it is given. */
    private static void wildArguments() {
        BentPicture x = thirty();
        for (int a : WILD) {
            for (int b : WILD) {
                for (int c : WILD) {
                    x.paint(a, b, c);
                    x.move(a, b, c);
                    x.edge(a, b, c);
                    x.share(a, b, c);
                    x.from(a, b, c);
                    x.to(a, b, c);
                    x.blend(a, b, c);
                    x.trace(a, b, c);
                    x.reach(a, b, c);
                    x.insert(a, b, c, a);
                }
                x.turn(a, b);
                x.knot(a, b);
                x.triangle(a, b);
                x.find(a, b, true);
                x.value(a, b, true);
                x.nearest(a, b);
                x.uses(a, b);
                x.room(a, b);
            }
            x.weave(a);
            x.count(a);
            x.bent(a);
            x.stretch(a);
            x.out(a);
        }
        int w = x.count(0);
        CHECK.due("still there", w, 20);
        for (int a : WILD) {
            for (int b : WILD) {
                CHECK.due("size(" + a + ", " + b + ")", x.size(a, b), a >= 2 && a <= 20 && b >= 2 && b <= 20);
            }
        }
    }
}
