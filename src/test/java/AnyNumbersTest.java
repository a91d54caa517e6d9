/**
 * Every call with numbers from the least int to the greatest, in all combinations: none may throw, and each answers as
 * the model does. A new object is made before the last one has had 512 calls.
 */
final class AnyNumbersTest {
    private static final Check CHECK = new Check("AnyNumbersTest");
    private static final int LEAST = Integer.MIN_VALUE;
    private static final int MOST = Integer.MAX_VALUE;
    private static final int[] NUMBERS = {LEAST, LEAST + 1, -65536, -33, -5, -4, -3, -2, -1, 0, 1, 2, 3, 4, 5, 6, 7, 8, 9,
        10, 15, 16, 20, 21, 29, 30, 31, 32, 33, 63, 64, 99, 100, 101, 400, 65536, 1 << 30, MOST - 1, MOST};
    private static final int[] FEWER = {LEAST, -4, -1, 0, 1, 2, 3, 4, 5, 6, 32, 65537, MOST};
    private static final int CALLS = 450;

    /** A run of acts that makes a picture, on the class and on the model. */
    private static final int[][] ACTS = {{2, 1, 3, 1}, {2, 0, 2, 0}, {4, 2, 4, 1}};

    private static BentPicture x;
    private static Model m;
    private static int calls;

    private AnyNumbersTest() {
    }

    public static void main(String[] args) {
        for (int acts = 0; acts <= ACTS.length; acts++) {
            anew(acts);
            asked(acts);
            done(acts);
            inserted(acts);
        }
        CHECK.end();
    }

    private static void anew(int acts) {
        x = new BentPicture();
        m = new Model();
        same("weave", x.weave(3), m.weave(3));
        for (int i = 0; i < acts; i++) {
            int[] a = ACTS[i];
            same("insert", x.insert(a[0], a[1], a[2], a[3]), m.insert(a[0], a[1], a[2], a[3]));
        }
        calls = 0;
    }

    /** Ahead of some calls: an object that could get more than it is made for is left. */
    private static void keepFew(int acts) {
        if (calls > CALLS) {
            anew(acts);
        }
    }

    private static void same(String call, int got, int want) {
        CHECK.due(call, got, want);
        calls++;
    }

    private static void asked(int acts) {
        for (int a : NUMBERS) {
            keepFew(acts);
            same("count " + a, x.count(a), m.count(a));
            same("bent " + a, x.bent(a), m.bent(a));
            same("stretch " + a, x.stretch(a), m.stretch(a));
            for (int b : NUMBERS) {
                keepFew(acts);
                askedByTwo(a, b);
                for (int c : NUMBERS) {
                    keepFew(acts);
                    askedByThree(a, b, c);
                }
            }
        }
    }

    private static void askedByTwo(int a, int b) {
        String by = " " + a + " " + b;
        same("value bent" + by, x.value(a, b, true), m.value(a, b, true));
        same("value" + by, x.value(a, b, false), m.value(a, b, false));
        same("knot" + by, x.knot(a, b), m.knot(a, b));
        same("triangle" + by, x.triangle(a, b), m.triangle(a, b));
        same("find home" + by, x.find(a, b, true), m.find(a, b, true));
        same("find" + by, x.find(a, b, false), m.find(a, b, false));
        same("nearest" + by, x.nearest(a, b), m.nearest(a, b));
        same("uses" + by, x.uses(a, b), m.uses(a, b));
        same("room" + by, x.room(a, b), m.room(a, b));
    }

    private static void askedByThree(int a, int b, int c) {
        String by = " " + a + " " + b + " " + c;
        same("edge" + by, x.edge(a, b, c), m.edge(a, b, c));
        same("share" + by, x.share(a, b, c), m.share(a, b, c));
        same("from" + by, x.from(a, b, c), m.from(a, b, c));
        same("to" + by, x.to(a, b, c), m.to(a, b, c));
        same("blend" + by, x.blend(a, b, c), m.blend(a, b, c));
        same("trace" + by, x.trace(a, b, c), m.trace(a, b, c));
        same("reach" + by, x.reach(a, b, c), m.reach(a, b, c));
    }

    private static void done(int acts) {
        for (int a : NUMBERS) {
            anew(acts);
            same("weave " + a, x.weave(a), m.weave(a));
            same("last value", x.value(4, 3, false), m.value(4, 3, false));
            same("out " + a, x.out(a), m.out(a));
            same("straight", x.straight(), m.straight());
            for (int b : NUMBERS) {
                anew(acts);
                same("turn " + a + " " + b, x.turn(a, b), m.turn(a, b));
                same("carry", x.carry(), m.carry());
                same("size " + a + " " + b, x.size(a, b) ? 1 : 0, m.size(a, b) ? 1 : 0);
                same("dots", x.count(0) * 100 + x.count(1), m.w * 100 + m.h);
                anew(acts);
                for (int c : NUMBERS) {
                    same("paint " + a + " " + b + " " + c, x.paint(a, b, c), m.paint(a, b, c));
                    same("move " + a + " " + b + " " + c, x.move(a, b, c), m.move(a, b, c));
                }
                same("values", x.count(7), m.count(7));
                same("bent knots", x.count(6), m.count(6));
            }
        }
    }

    private static void inserted(int acts) {
        anew(acts);
        for (int a : FEWER) {
            for (int b : FEWER) {
                for (int c : FEWER) {
                    for (int d : FEWER) {
                        insertedAt(acts, new int[] {a, b, c, d});
                    }
                }
            }
        }
    }

    private static void insertedAt(int acts, int[] a) {
        keepFew(acts);
        int got = x.insert(a[0], a[1], a[2], a[3]);
        same("insert " + a[0] + " " + a[1] + " " + a[2] + " " + a[3], got, m.insert(a[0], a[1], a[2], a[3]));
        same("knots", x.count(2), m.count(2));
        same("triangles", x.count(3), m.count(3));
        if (got >= 0) {
            anew(acts);
        }
    }
}
