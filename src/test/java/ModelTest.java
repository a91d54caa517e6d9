/** Long runs of calls, made by a fixed rule, on the class and on the model side by side: every answer is compared. */
final class ModelTest {
    private static final Check CHECK = new Check("ModelTest");
    private static long state;
    private static BentPicture x;
    private static Model m;
    private static String run;

    private ModelTest() {
    }

    public static void main(String[] args) {
        for (int i = 0; i < 900 && CHECK.wrong() < 20; i++) {
            begin(i);
            int calls = 60 + below(180);
            int acts = 30 + below(60);
            for (int j = 0; j < calls && CHECK.wrong() < 20; j++) {
                if (below(100) < acts) {
                    act();
                } else {
                    ask();
                }
            }
            lookAtTheNet();
        }
        dense();
        swirls();
        fullNets();
        CHECK.end();
    }

    private static void begin(int i) {
        state = i * 7919L + 17;
        run = "run " + i + ": ";
        x = new BentPicture();
        m = new Model();
        if (below(4) != 0) {
            int w = below(6) == 0 ? 2 + 18 * below(2) : 2 + below(19);
            int h = below(6) == 0 ? 2 + 18 * below(2) : 2 + below(19);
            same("size " + w + " " + h, x.size(w, h) ? 1 : 0, m.size(w, h) ? 1 : 0);
        }
        int seed = below(100) - 50;
        same("weave " + seed, x.weave(seed), m.weave(seed));
    }

    private static int below(int n) {
        state = state * 6364136223846793005L + 1442695040888963407L;
        return (int) Math.floorMod(state >>> 33, (long) n);
    }

    private static void same(String call, int got, int want) {
        CHECK.due(run + call, got, want);
    }

    /** Mostly a number that is one of n, now and then another one. */
    private static int number(int n) {
        switch (below(60)) {
            case 0:
                return -1;
            case 1:
                return n;
            case 2:
                return below(2) == 0 ? Integer.MIN_VALUE : Integer.MAX_VALUE;
            default:
                return below(n);
        }
    }

    private static int around(int at) {
        return at + below(5) - 2;
    }

    private static void act() {
        int k = number(m.knots.size());
        switch (below(20)) {
            case 0:
            case 1:
            case 2:
            case 3:
            case 4:
            case 5:
                insertSomewhere();
                break;
            case 6:
            case 7:
            case 8:
            case 9:
            case 10:
            case 11:
                moveSomewhere(k);
                break;
            case 12:
            case 13:
            case 14:
                turnSome(k);
                break;
            case 15:
            case 16:
                same("out " + k, x.out(k), m.out(k));
                break;
            case 17:
                if (below(3) == 0) {
                    same("straight", x.straight(), m.straight());
                }
                break;
            case 18:
                same("carry", x.carry(), m.carry());
                break;
            default:
                paintSome();
                break;
        }
    }

    private static void insertSomewhere() {
        int hx = number(m.w);
        int hy = number(m.h);
        if (below(5) == 0) {
            hx = below(2) * (m.w - 1);
        }
        int px = below(4) == 0 ? number(m.w) : around(hx);
        int py = below(4) == 0 ? number(m.h) : around(hy);
        if (below(3) != 0 && m.holdsDot(hx, hy)) {
            px = m.to(hx, hy, 0) / m.to(hx, hy, 2);
            py = m.to(hx, hy, 1) / m.to(hx, hy, 2);
        }
        same("insert " + hx + " " + hy + " " + px + " " + py, x.insert(hx, hy, px, py), m.insert(hx, hy, px, py));
    }

    private static void moveSomewhere(int any) {
        int free = m.knots.size() - 4;
        int k = free > 0 && below(6) != 0 ? 4 + below(free) : any;
        boolean known = k >= 0 && k < m.knots.size();
        int px = known && below(6) != 0 ? around(m.knots.get(k)[2]) : number(m.w);
        int py = known && below(6) != 0 ? around(m.knots.get(k)[3]) : number(m.h);
        if (known && x.knot(k, 5) == 1 && below(4) != 0) {
            px = m.knots.get(k)[0] % (m.w - 1) == 0 ? m.knots.get(k)[0] : px;
            py = m.knots.get(k)[1] % (m.h - 1) == 0 ? m.knots.get(k)[1] : py;
        }
        same("move " + k + " " + px + " " + py, x.move(k, px, py), m.move(k, px, py));
    }

    private static void turnSome(int k) {
        int other = number(m.knots.size());
        int one = k;
        if (below(4) != 0) {
            int[] t = m.triangles.get(below(m.triangles.size()));
            int i = below(3);
            one = t[i];
            other = t[(i + 1 + below(2)) % 3];
        }
        same("turn " + one + " " + other, x.turn(one, other), m.turn(one, other));
    }

    private static void paintSome() {
        int dx = number(m.w);
        int dy = number(m.h);
        int v = number(16);
        same("paint " + dx + " " + dy + " " + v, x.paint(dx, dy, v), m.paint(dx, dy, v));
        if (below(10) == 0) {
            int w = number(25);
            int h = number(25);
            if (w < 2 || w > 20 || h < 2 || h > 20) {
                same("size " + w + " " + h, x.size(w, h) ? 1 : 0, m.size(w, h) ? 1 : 0);
            }
        }
    }

    private static void ask() {
        int dx = number(m.w);
        int dy = number(m.h);
        int k = number(m.knots.size());
        switch (below(18)) {
            case 0:
                same("value " + dx + " " + dy, x.value(dx, dy, true), m.value(dx, dy, true));
                same("value of " + dx + " " + dy, x.value(dx, dy, false), m.value(dx, dy, false));
                break;
            case 1:
                int what = number(6);
                same("knot " + k + " " + what, x.knot(k, what), m.knot(k, what));
                break;
            case 2:
                askTriangle();
                break;
            case 3:
                askEdge(k);
                break;
            case 4:
                int sum = number(10);
                same("count " + sum, x.count(sum), m.count(sum));
                break;
            case 5:
                same("find " + dx + " " + dy, x.find(dx, dy, false), m.find(dx, dy, false));
                same("find home " + dx + " " + dy, x.find(dx, dy, true), m.find(dx, dy, true));
                break;
            case 6:
                int share = number(4);
                same("share " + dx + " " + dy + " " + share, x.share(dx, dy, share), m.share(dx, dy, share));
                break;
            case 7:
                int from = number(3);
                same("from " + dx + " " + dy + " " + from, x.from(dx, dy, from), m.from(dx, dy, from));
                break;
            case 8:
                int to = number(3);
                same("to " + dx + " " + dy + " " + to, x.to(dx, dy, to), m.to(dx, dy, to));
                break;
            case 9:
                same("nearest " + dx + " " + dy, x.nearest(dx, dy), m.nearest(dx, dy));
                break;
            case 10:
                int blend = number(2);
                same("blend " + dx + " " + dy + " " + blend, x.blend(dx, dy, blend), m.blend(dx, dy, blend));
                break;
            default:
                askMore(dx, dy, k);
                break;
        }
    }

    private static void askTriangle() {
        int t = number(m.triangles.size());
        int what = number(6);
        same("triangle " + t + " " + what, x.triangle(t, what), m.triangle(t, what));
    }

    private static void askEdge(int k) {
        int other = number(m.knots.size());
        int one = k;
        if (below(3) != 0) {
            int[] t = m.triangles.get(below(m.triangles.size()));
            one = t[below(3)];
            other = t[below(3)];
        }
        int what = number(4);
        same("edge " + one + " " + other + " " + what, x.edge(one, other, what), m.edge(one, other, what));
    }

    private static void askMore(int dx, int dy, int k) {
        switch (below(8)) {
            case 0:
                same("uses " + dx + " " + dy, x.uses(dx, dy), m.uses(dx, dy));
                break;
            case 1:
                same("lost", x.lost(), m.lost());
                break;
            case 2:
                int n = number(101);
                same("trace " + dx + " " + dy + " " + n, x.trace(dx, dy, n), m.trace(dx, dy, n));
                break;
            case 3:
                same("loops", x.loops(), m.loops());
                break;
            case 4:
                int i = below(3) == 0 ? -1 : number(40);
                same("room " + k + " " + i, x.room(k, i), m.room(k, i));
                break;
            case 5:
                int stepX = below(9) - 4;
                int stepY = below(9) - 4;
                same("reach " + k + " " + stepX + " " + stepY, x.reach(k, stepX, stepY), m.reach(k, stepX, stepY));
                break;
            case 6:
                int t = number(9);
                same("bent " + t, x.bent(t), m.bent(t));
                break;
            default:
                int what = number(6);
                same("stretch " + what, x.stretch(what), m.stretch(what));
                break;
        }
    }

    /** The whole net, and what must be true of every net. */
    private static void lookAtTheNet() {
        for (int what = -1; what <= 10; what++) {
            same("count " + what, x.count(what), m.count(what));
        }
        int homes = 0;
        int places = 0;
        int dots = 0;
        for (int t = -1; t <= m.triangles.size(); t++) {
            for (int what = -1; what <= 6; what++) {
                same("triangle " + t + " " + what, x.triangle(t, what), m.triangle(t, what));
            }
            homes += Math.max(0, x.triangle(t, 3));
            places += Math.max(0, x.triangle(t, 4));
            dots += Math.max(0, x.triangle(t, 5));
        }
        same("areas of homes", homes, 2 * (m.w - 1) * (m.h - 1));
        same("areas of places", places, 2 * (m.w - 1) * (m.h - 1));
        same("dots of triangles", dots, m.w * m.h);
        for (int k = -1; k <= m.knots.size(); k++) {
            for (int what = -1; what <= 6; what++) {
                same("knot " + k + " " + what, x.knot(k, what), m.knot(k, what));
            }
        }
        for (int d = 0; d < m.w * m.h; d++) {
            same("nearest " + d, x.nearest(d % m.w, d / m.w), m.nearest(d % m.w, d / m.w));
            same("blend " + d, x.blend(d % m.w, d / m.w, 0), m.blend(d % m.w, d / m.w, 0));
        }
        same("loops", x.loops(), m.loops());
        same("lost", x.lost(), m.lost());
        for (int t = 0; t <= 8; t++) {
            same("bent " + t, x.bent(t), m.bent(t));
        }
    }

    /** Small nets, in which every call with every argument is compared. */
    private static void dense() {
        for (int i = 0; i < 60 && CHECK.wrong() < 20; i++) {
            begin(10_000 + i);
            int w = 2 + below(5);
            int h = 2 + below(5);
            same("size", x.size(w, h) ? 1 : 0, m.size(w, h) ? 1 : 0);
            same("weave", x.weave(i), m.weave(i));
            for (int j = 0; j < 30; j++) {
                act();
            }
            lookAtTheNet();
            everyDot();
            everyKnot();
        }
    }

    /** The knots within go round the middle, so far that triangles fold on the way though none is a fold. */
    private static void swirls() {
        int bent = 0;
        for (int i = 0; i < 60 && CHECK.wrong() < 20; i++) {
            begin(20_000 + i);
            int w = 9 + below(12);
            int h = 9 + below(12);
            same("size", x.size(w, h) ? 1 : 0, m.size(w, h) ? 1 : 0);
            int knots = 4 + below(14);
            for (int j = 0; j < 40 && m.knots.size() < knots + 4; j++) {
                int hx = 1 + below(w - 2);
                int hy = 1 + below(h - 2);
                same("insert", x.insert(hx, hy, hx, hy), m.insert(hx, hy, hx, hy));
            }
            if (below(2) == 0) {
                same("insert on a side", x.insert(1, 0, 1, 0), m.insert(1, 0, 1, 0));
                same("insert on a side", x.insert(0, 2, 0, 2), m.insert(0, 2, 0, 2));
            }
            for (int j = 0; j < 300; j++) {
                goRound(4 + below(m.knots.size() - 4));
            }
            for (int t = 0; t <= 8; t++) {
                same("bent " + t, x.bent(t), m.bent(t));
                bent += x.bent(t) > 0 ? 1 : 0;
            }
            lookAtTheNet();
        }
        CHECK.due("a swirl folds on the way", bent > 10, true);
    }

    private static void goRound(int k) {
        int px = m.knots.get(k)[2];
        int py = m.knots.get(k)[3];
        int dx = Integer.signum(m.h - 1 - 2 * py) * below(3) + below(3) - 1;
        int dy = Integer.signum(2 * px - (m.w - 1)) * below(3) + below(3) - 1;
        same("move", x.move(k, px + dx, py + dy), m.move(k, px + dx, py + dy));
    }

    /** Nets of 30 knots, and what is asked of them then. */
    private static void fullNets() {
        int full = 0;
        for (int i = 0; i < 40 && CHECK.wrong() < 20; i++) {
            begin(30_000 + i);
            int w = 8 + below(13);
            int h = 8 + below(13);
            same("size", x.size(w, h) ? 1 : 0, m.size(w, h) ? 1 : 0);
            same("weave", x.weave(i), m.weave(i));
            for (int j = 0; j < 150 && m.knots.size() < 30; j++) {
                if (below(3) == 0) {
                    moveSomewhere(4);
                } else {
                    insertSomewhere();
                }
            }
            full += m.knots.size() == 30 ? 1 : 0;
            for (int j = 0; j < 30; j++) {
                insertSomewhere();
                turnSome(4);
                moveSomewhere(4);
            }
            lookAtTheNet();
            for (int j = 0; j < 60; j++) {
                act();
                ask();
            }
            lookAtTheNet();
        }
        CHECK.due("nets of 30 knots", full > 20, true);
    }

    private static void everyDot() {
        for (int dy = -1; dy <= m.h; dy++) {
            for (int dx = -1; dx <= m.w; dx++) {
                String at = " " + dx + " " + dy + " ";
                same("find" + at, x.find(dx, dy, true), m.find(dx, dy, true));
                same("find bent" + at, x.find(dx, dy, false), m.find(dx, dy, false));
                same("uses" + at, x.uses(dx, dy), m.uses(dx, dy));
                same("value" + at, x.value(dx, dy, true), m.value(dx, dy, true));
                for (int what = -1; what <= 4; what++) {
                    same("share" + at + what, x.share(dx, dy, what), m.share(dx, dy, what));
                    same("from" + at + what, x.from(dx, dy, what), m.from(dx, dy, what));
                    same("to" + at + what, x.to(dx, dy, what), m.to(dx, dy, what));
                    same("blend" + at + what, x.blend(dx, dy, what), m.blend(dx, dy, what));
                    same("trace" + at + what, x.trace(dx, dy, what), m.trace(dx, dy, what));
                }
            }
        }
    }

    private static void everyKnot() {
        for (int k = -1; k <= m.knots.size(); k++) {
            for (int other = -1; other <= m.knots.size(); other++) {
                for (int what = -1; what <= 4; what++) {
                    same("edge " + k + " " + other + " " + what, x.edge(k, other, what), m.edge(k, other, what));
                }
            }
            for (int i = -2; i <= m.w * m.h; i++) {
                same("room " + k + " " + i, x.room(k, i), m.room(k, i));
            }
            for (int step = 0; step < 81; step++) {
                int dx = step % 9 - 4;
                int dy = step / 9 - 4;
                same("reach " + k + " " + dx + " " + dy, x.reach(k, dx, dy), m.reach(k, dx, dy));
            }
        }
        for (int what = -1; what <= 6; what++) {
            same("stretch " + what, x.stretch(what), m.stretch(what));
        }
    }
}
